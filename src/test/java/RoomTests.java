import java.lang.management.ManagementFactory;

/** All calls of one run live in one room: no call makes anything, and a new object is small. */
final class RoomTests {
    private static final long MOST_OF_AN_OBJECT = 40_000;

    private RoomTests() {
    }

    static void run() {
        com.sun.management.ThreadMXBean bean = (com.sun.management.ThreadMXBean) ManagementFactory.getThreadMXBean();
        long thread = Thread.currentThread().getId();
        everyCall(new ShakeHands());
        long start = bean.getThreadAllocatedBytes(thread);
        long probe = bean.getThreadAllocatedBytes(thread) - start;
        long ahead = bean.getThreadAllocatedBytes(thread);
        ShakeHands x = new ShakeHands();
        long made = bean.getThreadAllocatedBytes(thread) - ahead - probe;
        Due.holds("a new object takes " + made + " bytes", made <= MOST_OF_AN_OBJECT);
        ahead = bean.getThreadAllocatedBytes(thread);
        everyCall(x);
        long kept = bean.getThreadAllocatedBytes(thread) - ahead - probe;
        // the machine itself may make a little; a row a call would be thousands of bytes
        Due.holds("calls made " + kept + " bytes", kept < 1000);
    }

    /** The text is laid by numbers, so that the test makes nothing either. */
    private static void everyCall(ShakeHands x) {
        // "people 6;knows 0 1;hand 0 1;daily 1 2;join 1 2 3;"
        x.feed(0x70656F706C652036L);
        x.feed(0x3B6B6E6F77732030L);
        x.feed(0x20313B68616E6420L);
        x.feed(0x3020313B6461696CL);
        x.feed(0x79203120323B6A6FL);
        x.feed(0x696E20312032203BL);
        x.end(47);
        x.text();
        x.end(0);
        x.feed(0x70656F706C652036L);
        x.feed(0x3B6B6E6F77732030L);
        x.feed(0x20313B68616E6420L);
        x.feed(0x3020313B20202020L);
        x.text();
        x.fault();
        for (int i = 0; i < 6; i++) {
            x.rule(i);
            x.hand(i, true);
            x.join(i, i);
            x.knows(i);
            x.row(i, i);
            x.who(i);
            x.learn(i, i + 4);
            x.forget(i, i + 5);
            x.glove(i, false);
            x.shake(i, 0);
            x.feast(1);
            x.after(1, i);
            x.lost(i);
            x.told(i, i);
            x.fewest(i, 63, 0, 0);
            x.rounds(i, 63, 0);
            x.lose(i);
            x.lives(i);
            x.comes(1);
            x.days(9);
            x.saw(i, 4);
            x.blind();
            x.fits(4, 2);
            x.least();
            x.seats(i, i, 0);
            x.gloves(i, i, 1);
            x.keep(i);
            x.back(i);
            x.sheet(i, i, 40);
            x.lay(i, i, i);
            x.read(i, i, i, i);
            x.torn();
            x.count(i);
        }
    }
}
