/** Holds answers against those that are due, and prints each that differs. */
final class Due {
    static final int LOW = -1000000000;
    static final int BEYOND = LOW - 1;
    static final int NONE = LOW - 2;
    static final int STATE = LOW - 3;
    static final int FULL = LOW - 4;
    static final int KIND = LOW - 5;
    static final int PARTED = LOW - 6;

    private final String test;
    private int asked;
    private int wrong;

    Due(String test) {
        this.test = test;
    }

    void is(String what, long got, long want) {
        asked++;
        if (got != want) {
            wrong++;
            System.out.println(test + ": " + what + " answered " + got + ", due is " + want);
        }
    }

    void fault(String what) {
        asked++;
        wrong++;
        System.out.println(test + ": " + what);
    }

    int wrong() {
        return wrong;
    }

    void end() {
        System.out.println(test + ": " + asked + " asked, " + wrong + " wrong");
        if (wrong != 0 || asked == 0) {
            System.exit(1);
        }
    }

    /** A TEXT comes to THE TAPE, eight bytes a call. */
    static void feed(BagBottom bag, String text) {
        for (int i = 0; i < text.length(); i += 8) {
            int n = Math.min(8, text.length() - i);
            long word = 0;
            for (int j = n - 1; j >= 0; j--) {
                word = word << 8 | text.charAt(i + j) & 255;
            }
            bag.feed(word, n);
        }
    }

    static int text(BagBottom bag, int use, String text) {
        feed(bag, text);
        return bag.text(use);
    }

    /** Seven things, one of each KIND: 6 lies on top, 0 at the bottom. */
    static BagBottom seven() {
        BagBottom bag = new BagBottom();
        bag.thing(5, 40, 4);
        bag.thing(13, 30, 5);
        bag.thing(24, 8, 3);
        bag.thing(30, 5, 2);
        bag.thing(47, 20, 6);
        bag.thing(52, 3, 1);
        bag.thing(69, 35, 7);
        return bag;
    }

    /** Plain THINGS of these WEIGHTS, the last on top; each has its number as m, and SIZE 1. */
    static BagBottom plain(int... weights) {
        BagBottom bag = new BagBottom();
        for (int i = 0; i < weights.length; i++) {
            bag.thing(i, weights[i], 1);
        }
        return bag;
    }

    /** THE ORDER as digits, from the top. */
    static String order(BagBottom bag) {
        StringBuilder order = new StringBuilder();
        int in = bag.count(1);
        for (int place = 0; place < in; place++) {
            order.append(bag.at(place));
        }
        return order.toString();
    }

    void order(String what, BagBottom bag, String want) {
        asked++;
        String got = order(bag);
        if (!got.equals(want)) {
            wrong++;
            System.out.println(test + ": " + what + ": THE ORDER is " + got + ", due is " + want);
        }
    }

    /** A SHEET of some bits that has these numbers. */
    static void sheet(BagBottom bag, int sheet, int bits, int... numbers) {
        bag.sheet(sheet, bits, numbers.length);
        for (int i = 0; i < numbers.length; i++) {
            bag.put(sheet, i, numbers[i]);
        }
    }
}
