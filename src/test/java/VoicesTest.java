/** Promises 27 and 28: VOICES and THE TRACE. */
public final class VoicesTest {
    private static final int X = 7;
    private static final Due due = new Due("VoicesTest");

    public static void main(String[] args) {
        bodies();
        number();
        parts();
        wraps();
        wrong();
        due.end();
    }

    /** One thing, number 2, of a KIND, with m. */
    private static BagBottom second(int kind, int m) {
        BagBottom bag = new BagBottom();
        bag.thing(0, 0, 1);
        bag.thing(0, 0, 1);
        bag.thing(10 * kind + m, 0, 1);
        return bag;
    }

    private static void bodies() {
        int m = 5;
        int k = 2;
        speaks(0, m, 0, X, X + k, 10);
        speaks(0, m, 1, X, (X + k) * 2, 11, 10);
        speaks(0, m, 2, X, (X + k) * 2 - m, 12, 11, 10);
        speaks(0, m, 3, X, 2, 13);

        int keys = X + k - 4;
        speaks(1, m, 0, X, keys, 20, 10);
        speaks(1, m, 1, X, keys * 2, 11, 20, 10);
        speaks(1, m, 2, X, keys * 2 - m, 12, 11, 20, 10);
        speaks(1, m, 3, X, 2 + (1 + k - 4) * 2, 21, 13, 11, 20, 10);

        speaks(2, m, 0, X, X + k, 10);
        speaks(2, m, 1, X, -(X + k) * 2, 30, 11, 10);
        speaks(2, m, 2, X, -(X + k) * 2 - m, 12, 30, 11, 10);
        speaks(2, m, 3, -X, -2, 13);

        speaks(3, m, 0, X, X + k, 10);
        speaks(3, m, 1, X, (X + k) * 2, 11, 10);
        speaks(3, m, 2, X, (3 + k) * 2 - m, 40, 12, 11, 10);
        speaks(3, m, 2, -X, (-3 + k) * 2 - m, 40, 12, 11, 10);
        speaks(3, m, 3, X, 2, 13);

        speaks(4, m, 0, X, keys * 3, 50, 20, 10);
        speaks(4, m, 1, X, keys * 6, 11, 50, 20, 10);
        speaks(4, m, 2, X, keys * 6 - m ^ k, 51, 12, 11, 50, 20, 10);
        speaks(4, m, 3, X, 2 + (1 + k - 4) * 6, 21, 13, 11, 50, 20, 10);

        speaks(5, m, 0, X, X + k, 10);
        speaks(5, m, 1, X, -(X + 1 + k) * 2, 60, 30, 11, 10);
        speaks(5, m, 2, X, -(X + 1 + k) * 2 - m, 12, 60, 30, 11, 10);
        speaks(5, m, 3, X, 2, 13);

        speaks(6, m, 0, X, 9, 70);
        speaks(6, m, 1, X, 18 + m, 71, 11, 70);
        speaks(6, m, 2, X, 18 + m - m, 12, 71, 11, 70);
        speaks(6, m, 3, X, 2, 13);
    }

    private static void speaks(int kind, int m, int voice, int x, int want, int... trace) {
        BagBottom bag = second(kind, m);
        String call = "voice " + voice + " of KIND " + kind;
        due.is("27 " + call, bag.voice(2, voice, x), want);
        traced(call, bag, trace);
    }

    private static void traced(String call, BagBottom bag, int... trace) {
        due.is("28 BODIES of " + call, bag.count(7), trace.length);
        for (int i = 0; i < trace.length; i++) {
            due.is("28 body(" + i + ") of " + call, bag.body(i), trace[i]);
        }
        due.is("28 none behind, " + call, bag.body(trace.length), Due.NONE);
    }

    /** k is the number of the THING, not its KIND or its place. */
    private static void number() {
        BagBottom bag = Due.plain(0, 0, 0, 0);
        for (int thing = 0; thing < 4; thing++) {
            due.is("27 rattles of " + thing, bag.voice(thing, 0, 10), 10 + thing);
        }
        bag.leave(3);
        bag.zip(2);
        due.is("27 one that is OUT", bag.voice(3, 0, 10), 13);
        due.is("27 one in THE POCKET", bag.voice(2, 0, 10), 12);
        bag.become(3, 68);
        due.is("27 as it is now", bag.voice(3, 1, 10), 26);
    }

    private static void parts() {
        BagBottom bag = second(0, 2);
        bag.voice(2, 2, 0);
        due.is("27 PARTED", bag.voice(2, 3, X), Due.PARTED);
        due.is("27 told", bag.told(6), 1);
        traced("PARTED", bag, 13);
        bag.become(2, 12);
        due.is("27 KEYS PARTED: no more than that", bag.voice(2, 3, X), Due.PARTED);
        traced("KEYS PARTED: what stands right doesn't begin", bag, 21, 13);
        bag.become(2, 42);
        due.is("27 a RING PARTED", bag.voice(2, 3, X), Due.PARTED);
        traced("a RING PARTED", bag, 21, 13);
        due.is("27 told three", bag.told(6), 3);
        bag.voice(2, 4, X);
        bag.voice(3, 3, X);
        traced("BEYOND leaves THE TRACE", bag, 21, 13);
        bag.become(2, 0);
        due.is("27 by less than 0", bag.voice(2, 3, X), -3);
        due.is("27 and cut", bag.voice(2, 3, 1), 0);
        traced("of the latest", bag, 13);
        bag.become(2, 1);
        due.is("27 by -1", bag.voice(2, 3, Integer.MIN_VALUE), Integer.MIN_VALUE);
        due.is("27 told no more", bag.told(6), 3);
    }

    private static void wraps() {
        BagBottom bag = second(0, 0);
        due.is("27 wraps", bag.voice(2, 0, Integer.MAX_VALUE), Integer.MIN_VALUE + 1);
        due.is("27 looks like an ERROR", bag.voice(2, 0, Due.BEYOND - 2), Due.BEYOND);
        due.is("27 and is none", bag.told(1), 0);
    }

    private static void wrong() {
        BagBottom bag = second(0, 0);
        due.is("28 none yet", bag.body(0), Due.NONE);
        bag.voice(2, 2, 1);
        due.is("27 thing 3", bag.voice(3, 0, 1), Due.BEYOND);
        due.is("27 thing -1", bag.voice(-1, 0, 1), Due.BEYOND);
        due.is("27 voice 4", bag.voice(2, 4, 1), Due.BEYOND);
        due.is("27 voice -1", bag.voice(2, -1, 1), Due.BEYOND);
        due.is("28 they leave THE TRACE", bag.count(7), 3);
        due.is("28 body(-1)", bag.body(-1), Due.NONE);
        due.is("28 told", bag.told(2), 2);
    }
}
