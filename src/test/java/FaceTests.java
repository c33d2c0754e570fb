import java.io.IOException;
import java.lang.reflect.Method;
import java.lang.reflect.Modifier;
import java.nio.file.Files;
import java.nio.file.Path;
import java.util.ArrayList;
import java.util.LinkedHashMap;
import java.util.List;
import java.util.Map;
import java.util.regex.Matcher;
import java.util.regex.Pattern;

/** The face as the document has it: its signatures, their order, what the interface says ahead of them. */
final class FaceTests {
    private static final Pattern OPEN = Pattern.compile("    (public .*\\)) \\{");
    private static final Pattern CONSTANTS = Pattern.compile("    (public static final int .*;)");
    private static final Pattern AHEAD = Pattern.compile("    // ---- (.*)");
    private static final Pattern CALL = Pattern.compile("public int (\\w+)\\((.*)\\)");

    /** What stands open in the source, in its order. */
    private final List<String> members = new ArrayList<>();
    private final List<String> calls = new ArrayList<>();
    private final Map<String, List<String>> groups = new LinkedHashMap<>();

    private FaceTests() {
    }

    static void run(String program) throws IOException {
        FaceTests face = new FaceTests();
        face.look(Files.readAllLines(Path.of(program)));
        face.whole();
        face.groups.forEach(FaceTests::group);
        face.titles();
    }

    private void look(List<String> lines) {
        String group = "";
        for (String line : lines) {
            Matcher ahead = AHEAD.matcher(line);
            Matcher constants = CONSTANTS.matcher(line);
            Matcher open = OPEN.matcher(line);
            if (ahead.matches()) {
                group = ahead.group(1);
            } else if (constants.matches()) {
                members.add(constants.group(1));
            } else if (open.matches()) {
                members.add(open.group(1) + ";");
                Matcher call = CALL.matcher(open.group(1));
                if (call.matches()) {
                    calls.add(call.group(1) + " `int " + call.group(1) + "(" + call.group(2) + ")`:");
                    groups.computeIfAbsent(group, k -> new ArrayList<>()).add("`" + call.group(1) + "`");
                }
            }
        }
    }

    private void whole() {
        String words = "public final class ShakeHands { " + String.join(" ", members) + " }";
        Sentence.says(Sentence.TERMS, words, () -> {
            long open = java.util.Arrays.stream(ShakeHands.class.getDeclaredMethods())
                    .filter(m -> Modifier.isPublic(m.getModifiers())).count();
            Due.is("public calls", Sentence.PROMISES - 1, open);
            Due.is("public calls of the source", Sentence.PROMISES - 1, calls.size());
            Due.is("public members of the source", Sentence.PROMISES + 1, members.size());
            Due.is("BAD", -1, ShakeHands.BAD);
            Due.is("STATE", -2, ShakeHands.STATE);
            Due.is("FULL", -3, ShakeHands.FULL);
            Due.is("NONE", -4, ShakeHands.NONE);
        });
    }

    private static void group(String title, List<String> names) {
        String words = "Ahead of the calls " + String.join(", ", names) + " the interface says: ---- " + title + ".";
        Sentence.says(Sentence.TERMS, words, () -> Due.holds("some calls", !names.isEmpty()));
    }

    /** Each promise's title and signature, by the source's own. */
    private void titles() {
        Sentence.says(1, "Promise 1: A new object `ShakeHands()`:", () ->
                Due.is("constructors", 1, ShakeHands.class.getConstructors().length));
        for (int i = 0; i < calls.size(); i++) {
            String call = calls.get(i);
            int promise = 2 + i;
            Sentence.says(promise, "Promise " + promise + ": " + call, () -> answersInts(call));
        }
    }

    private static void answersInts(String call) {
        String name = call.substring(0, call.indexOf(' '));
        int found = 0;
        for (Method m : ShakeHands.class.getDeclaredMethods()) {
            if (m.getName().equals(name)) {
                found++;
                Due.holds("it answers an int", m.getReturnType() == int.class);
                Due.holds("it is public and not static", m.getModifiers() == Modifier.PUBLIC);
            }
        }
        Due.is("methods of that name", 1, found);
    }
}
