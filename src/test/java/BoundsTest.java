/** Each argument of each call at both its ends, one outside of each, and as far outside as an int goes. */
public final class BoundsTest {
    private static final Due due = new Due("BoundsTest");
    private static final int LEAST = Integer.MIN_VALUE;
    private static final int MOST = Integer.MAX_VALUE;

    /** A call with one of its arguments told. */
    private interface Call {
        int with(BagBottom bag, int v);
    }

    public static void main(String[] args) {
        things();
        texts();
        times();
        thoughts();
        sheets();
        numbersOfSheets();
        told();
        anyNumber();
        due.end();
    }

    /** Six lie in the bag, 3 in THE POCKET; SHEETS 0 and 1 have 24 numbers, 2 and 3 are missing. */
    private static BagBottom bag() {
        BagBottom bag = Due.seven();
        bag.zip(3);
        bag.sheet(0, 8, 24);
        bag.sheet(1, 8, 24);
        return bag;
    }

    private static void within(String what, int least, int most, Call call) {
        for (int v : new int[] {least, most}) {
            BagBottom bag = bag();
            due.is(what + ", " + v + " isn't BEYOND", call.with(bag, v) == Due.BEYOND ? 1 : 0, 0);
            due.is(what + ", " + v + " is not told", bag.told(1), 0);
        }
        for (int v : new int[] {least - 1, most + 1, LEAST, MOST}) {
            BagBottom bag = bag();
            due.is(what + ", " + v, call.with(bag, v), Due.BEYOND);
            due.is(what + ", " + v + " is told", bag.told(1), 1);
        }
    }

    /** The number of a THING: 0 .. 6 in this bag. */
    private static void number(String what, Call call) {
        within(what + ", the THING", 0, 6, call);
    }

    private static void things() {
        within("2 thing: km", 0, 69, (bag, v) -> bag.thing(v, 0, 1));
        within("2 thing: weight", 0, 99, (bag, v) -> bag.thing(0, v, 1));
        within("2 thing: size", 1, 9, (bag, v) -> bag.thing(0, 0, v));
        number("3 thingIs", (bag, v) -> bag.thingIs(v, 0));
        within("3 thingIs: what", 0, 6, (bag, v) -> bag.thingIs(0, v));
        number("4 become", (bag, v) -> bag.become(v, 0));
        within("4 become: km", 0, 69, (bag, v) -> bag.become(0, v));
        number("5 as", (bag, v) -> bag.as(v, 0));
        within("5 as: kind", 0, 6, (bag, v) -> bag.as(0, v));
        number("6 weigh", (bag, v) -> bag.weigh(v, 0));
        within("6 weigh: v", 0, 99, (bag, v) -> bag.weigh(0, v));
        within("7 at: place", 0, 5, (bag, v) -> bag.at(v));
        number("8 leave", (bag, v) -> bag.leave(v));
        number("9 stow", (bag, v) -> bag.stow(v));
        within("10 zip", -1, 6, (bag, v) -> bag.zip(v));
    }

    private static void texts() {
        within("11 feed: n", 1, 8, (bag, v) -> bag.feed(0, v));
        within("12 text: use", 0, 1, (bag, v) -> bag.text(v));
        within("13 untell: use", 0, 1, (bag, v) -> bag.untell(v));
        within("14 law: use", 0, 1, (bag, v) -> bag.law(v, 0, 0, 0));
    }

    private static void times() {
        number("15 seconds", (bag, v) -> bag.seconds(v, 0));
        within("15 seconds: how", 0, 2, (bag, v) -> bag.seconds(0, v));
        number("16 best", (bag, v) -> bag.best(v, 0));
        within("16 best: what", 0, 1, (bag, v) -> bag.best(0, v));
        number("17 takes", (bag, v) -> bag.takes(v, 0));
        within("17 takes: how", 0, 2, (bag, v) -> bag.takes(0, v));
        within("18 walks: n", 1, 100, (bag, v) -> bag.walks(v));
        within("19 loose: n", 1, 20, (bag, v) -> bag.loose(v));
    }

    private static void thoughts() {
        number("21 then", (bag, v) -> bag.then(v, 0));
        within("21 then: n", 0, 100, (bag, v) -> bag.then(0, v));
        within("23 pack: n", 0, 20, (bag, v) -> bag.pack(v, 0));
        within("23 pack: what", -1, 5, (bag, v) -> bag.pack(0, v));
        number("24 out", (bag, v) -> bag.out(v, 0, 0));
        within("24 out: s", 0, 999, (bag, v) -> bag.out(0, v, 0));
        within("24 out: what", 0, 1, (bag, v) -> bag.out(0, 99, v));
        within("25 odds: s", 0, 999, (bag, v) -> bag.odds(v, 0));
        within("25 odds: part", 0, 1, (bag, v) -> bag.odds(0, v));
        within("26 fits: sheet", 0, 3, (bag, v) -> bag.fits(v));
    }

    private static void sheets() {
        number("27 voice", (bag, v) -> bag.voice(v, 0, 0));
        within("27 voice: voice", 0, 3, (bag, v) -> bag.voice(1, v, 0));
        within("29 sheet: sheet", 0, 3, (bag, v) -> bag.sheet(v, 8, 1));
        within("29 sheet: sheet, missing", 0, 3, (bag, v) -> bag.sheet(v, 0, 0));
        for (int bits : new int[] {0, 8, 16, 32}) {
            within("29 sheet: bits near " + bits, bits, bits, (bag, v) -> bag.sheet(0, v, 1));
        }
        for (int bits : new int[] {8, 16, 32}) {
            due.is("29 sheet: n 0 of bits " + bits, bag().sheet(0, bits, 0), 1);
            due.is("29 sheet: n 24 of bits " + bits, bag().sheet(0, bits, 24), 1);
            due.is("29 sheet: n 25 of bits " + bits, bag().sheet(0, bits, 25), Due.BEYOND);
            due.is("29 sheet: n most of bits " + bits, bag().sheet(0, bits, MOST), Due.BEYOND);
            due.is("29 sheet: n -1 of bits " + bits, bag().sheet(0, bits, -1), Due.STATE);
            due.is("29 sheet: n least of bits " + bits, bag().sheet(0, bits, LEAST), Due.STATE);
        }
        for (int n : new int[] {LEAST, -1, 0, 24, 25, MOST}) {
            due.is("29 sheet: n " + n + " of one that is missing", bag().sheet(0, 0, n), 1);
        }
        within("32 weights: sheet", 0, 3, (bag, v) -> bag.weights(v));
        within("33 judge: sheet", 0, 3, (bag, v) -> bag.judge(v));
    }

    private static void numbersOfSheets() {
        within("30 put: sheet", 0, 3, (bag, v) -> bag.put(v, 0, 0));
        within("30 put: i", 0, 23, (bag, v) -> bag.put(0, v, 0));
        within("31 move: sheet", 0, 3, (bag, v) -> bag.move(v, 0, 0, 0, 1));
        within("31 move: other", 0, 3, (bag, v) -> bag.move(0, 0, v, 0, 1));
        within("31 move: i of one", 0, 23, (bag, v) -> bag.move(0, v, 1, 0, 1));
        within("31 move: j of one", 0, 23, (bag, v) -> bag.move(0, 0, 1, v, 1));
        within("31 move: i of none", 0, 24, (bag, v) -> bag.move(0, v, 1, 0, 0));
        within("31 move: j of none", 0, 24, (bag, v) -> bag.move(0, 0, 1, v, 0));
        within("31 move: n", 0, 24, (bag, v) -> bag.move(0, 0, 1, 0, v));
        within("31 move: n from number 5 on", 0, 19, (bag, v) -> bag.move(0, 5, 1, 0, v));
        within("31 move: n to number 5 on", 0, 19, (bag, v) -> bag.move(0, 0, 1, 5, v));
        within("31 move: i, j and n", 0, 12, (bag, v) -> bag.move(0, v, 0, v, v));
    }

    private static void told() {
        within("38 count: what", 0, 8, (bag, v) -> bag.count(v));
        within("39 told: k", 1, 6, (bag, v) -> bag.told(v));
        for (int i : new int[] {LEAST, -1, 0, MOST}) {
            due.is("28 body(" + i + ") without a voice()", bag().body(i), Due.NONE);
        }
        BagBottom bag = bag();
        bag.voice(1, 3, 0);
        due.is("28 the first of five", bag.body(0), 21);
        due.is("28 the last of five", bag.body(4), 10);
        for (int i : new int[] {LEAST, -1, 5, MOST}) {
            due.is("28 body(" + i + ") of five", bag.body(i), Due.NONE);
        }
    }

    /** Arguments that may be any number: no one of them is refused. */
    private static void anyNumber() {
        for (int v : new int[] {LEAST, Due.BEYOND, -1, 0, 1, 100, MOST}) {
            BagBottom bag = bag();
            int held = Math.max(0, Math.min(99, v));
            due.is("14 law of f " + v, bag.law(0, v, 0, 0), held);
            due.is("14 law of d " + v, bag.law(0, 0, v, 0), held);
            due.is("14 law of k " + v, bag.law(0, 5, 6, v), 11);
            due.is("14 law of n " + v, bag.law(1, v, 0, 7), 7);
            due.is("14 law of KIND " + v, bag.law(1, 0, v, 7), 7);
            due.is("14 law of m " + v, bag.law(1, 0, 0, v), held);
            due.is("20 seed " + v, bag.seed(v), 1);
            due.is("20 it is z", bag.count(8), v);
            due.is("20 what it was", bag.seed(0), v);
            due.is("27 voice of x " + v, bag.voice(0, 0, v), v);
            due.is("30 put of v " + v, bag.put(0, 0, v), 1);
            due.is("36 tell " + v, bag.tell(v), 1);
            due.is("11 feed of word " + v, bag.feed(v, 1), 1);
            for (int k = 1; k <= 6; k++) {
                due.is("39 none of these is an ERROR", bag.told(k), 0);
            }
        }
    }
}
