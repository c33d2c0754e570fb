/** ShakeHands with its calls counted: an object is used for at most 512 calls. */
final class Hands {
    static final int MOST_CALLS = 512;

    private final ShakeHands x = new ShakeHands();
    private int calls;

    /** How many calls may still be made. */
    int left() {
        return MOST_CALLS - calls;
    }

    private ShakeHands used() {
        calls++;
        if (calls > MOST_CALLS) {
            Due.holds("no call behind the 512th", false);
        }
        return x;
    }

    int feed(long v) {
        return used().feed(v);
    }

    int end(int n) {
        return used().end(n);
    }

    int text() {
        return used().text();
    }

    int fault() {
        return used().fault();
    }

    int rule(int what) {
        return used().rule(what);
    }

    int hand(int i, boolean daily) {
        return used().hand(i, daily);
    }

    int join(int j, int what) {
        return used().join(j, what);
    }

    int knows(int p) {
        return used().knows(p);
    }

    int row(int p, int i) {
        return used().row(p, i);
    }

    int who(int thing) {
        return used().who(thing);
    }

    int learn(int p, int thing) {
        return used().learn(p, thing);
    }

    int forget(int p, int thing) {
        return used().forget(p, thing);
    }

    int glove(int p, boolean is) {
        return used().glove(p, is);
    }

    int shake(int a, int b) {
        return used().shake(a, b);
    }

    int feast(int n) {
        return used().feast(n);
    }

    int after(int n, int p) {
        return used().after(n, p);
    }

    int lost(int thing) {
        return used().lost(thing);
    }

    int told(int p, int thing) {
        return used().told(p, thing);
    }

    int fewest(int thing, int some, int others, int what) {
        return used().fewest(thing, some, others, what);
    }

    int rounds(int thing, int some, int others) {
        return used().rounds(thing, some, others);
    }

    int lose(int thing) {
        return used().lose(thing);
    }

    int lives(int thing) {
        return used().lives(thing);
    }

    int comes(int what) {
        return used().comes(what);
    }

    int days(int n) {
        return used().days(n);
    }

    int saw(int p, int things) {
        return used().saw(p, things);
    }

    int blind() {
        return used().blind();
    }

    int fits(int n, int what) {
        return used().fits(n, what);
    }

    int least() {
        return used().least();
    }

    int seats(int thing, int p, int what) {
        return used().seats(thing, p, what);
    }

    int gloves(int thing, int p, int what) {
        return used().gloves(thing, p, what);
    }

    int keep(int k) {
        return used().keep(k);
    }

    int back(int k) {
        return used().back(k);
    }

    int sheet(int k, int lane, int n) {
        return used().sheet(k, lane, n);
    }

    int lay(int k, int i, int v) {
        return used().lay(k, i, v);
    }

    int read(int k, int lane, int f, int n) {
        return used().read(k, lane, f, n);
    }

    int torn() {
        return used().torn();
    }

    int count(int what) {
        return used().count(what);
    }
}
