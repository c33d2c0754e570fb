import java.nio.file.Path;

/** Runs every test of the project. */
public final class AllTests {
    private AllTests() {
    }

    public static void main(String[] args) throws Exception {
        Sentence.open(Path.of(args[1]));
        EdgeTextTests.run();
        EdgeKnowTests.run();
        EdgeSearchTests.run();
        EdgeSheetTests.run();
        StoryTests.run();
        FaceTests.run(args[0]);
        Sentence.eachPromiseWasLooked();
        Sentence.eachWordWasLooked();
        TextTests.run();
        KnowTests.run();
        SearchTests.run();
        SheetTests.run();
        ModelTests.run();
        RoomTests.run();
        LanguageTests.run(args[0]);
        ReadmeTests.run(args[2]);
        System.out.println(Due.passed + " passed, " + Due.failed + " failed");
        if (Due.failed != 0) {
            System.exit(1);
        }
    }
}
