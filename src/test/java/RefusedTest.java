/**
 * Each ERROR that a promise names changes nothing but what told() tells, and what is only asked changes nothing at
 * all. Twins are made by the same calls; one of them is asked once more; then both must answer all else alike.
 */
public final class RefusedTest {
    private static final Due due = new Due("RefusedTest");

    private interface Act {
        int on(BagBottom bag);
    }

    public static void main(String[] args) {
        things();
        texts();
        times();
        thoughts();
        voices();
        sheets();
        toldAndKept();
        onlyAsked();
        due.end();
    }

    /**
     * All that can be kept is there: 3 in THE POCKET, 2 OUT, the others IN, TEXTS, bytes, numbers that wait, SHEETS
     * (3 is missing), a TRACE, and an IMAGE that is other than what stands.
     */
    private static BagBottom busy() {
        BagBottom bag = Due.seven();
        Due.text(bag, 0, "f+d*2");
        Due.feed(bag, "m*2");
        bag.walks(5);
        bag.zip(4);
        bag.tell(6);
        bag.image();
        bag.image();
        Due.text(bag, 1, "+1");
        Due.feed(bag, "9-m");
        bag.takes(0, 2);
        bag.zip(3);
        bag.leave(2);
        bag.weigh(5, 50);
        bag.tell(bag.at(0));
        bag.seed(-77);
        bag.walks(1);
        Due.sheet(bag, 0, 8, 4, 6, 1, 0, 5);
        Due.sheet(bag, 1, 16, 60, 61, 62, 63, 64, 65, 66);
        Due.sheet(bag, 2, 32, 99, 98, 97);
        bag.voice(1, 3, 9);
        return bag;
    }

    private static void refused(String what, int error, Act act) {
        refused(what, error, bag -> 0, act);
    }

    private static void refused(String what, int error, Act ahead, Act act) {
        BagBottom one = busy();
        BagBottom other = busy();
        ahead.on(one);
        ahead.on(other);
        due.is(what, act.on(other), error);
        for (int k = 1; k <= 6; k++) {
            due.is(what + ": told(" + k + ") more", other.told(k) - one.told(k), Due.LOW - error == k ? 1 : 0);
        }
        alike(what, one, other);
    }

    private static void asked(String what, Act act) {
        BagBottom one = busy();
        BagBottom other = busy();
        act.on(other);
        for (int k = 1; k <= 6; k++) {
            due.is(what + ": told(" + k + ") more", other.told(k) - one.told(k), 0);
        }
        alike(what, one, other);
    }

    private static void alike(String what, BagBottom one, BagBottom other) {
        String want = all(one);
        String got = all(other);
        due.is(what + " changes nothing", got.equals(want) ? 0 : 1, 0);
        if (!got.equals(want)) {
            System.out.println("  without it: " + want + "\n  behind it:  " + got);
        }
    }

    /** All that an object answers; the calls that read by changing come last, those that bring back behind them. */
    private static String all(BagBottom bag) {
        StringBuilder all = new StringBuilder();
        standing(all, bag);
        for (int i = 0; i < 31; i++) {
            say(all, bag.body(i));
        }
        for (int sheet = 0; sheet < 4; sheet++) {
            all.append(" SHEET");
            numbers(all, bag, sheet);
            // Which of these is a WEIGHT tells of how many bits it is.
            bag.put(sheet, 0, 65536 + 5);
            say(all, bag.weights(sheet));
            bag.put(sheet, 0, 256 + 5);
            say(all, bag.weights(sheet));
        }
        said(all, bag);
        all.append(" IMAGE");
        say(all, bag.restore());
        standing(all, bag);
        said(all, bag);
        say(all, bag.image());
        return all.toString();
    }

    private static void numbers(StringBuilder all, BagBottom bag, int sheet) {
        say(all, bag.weights(sheet));
        for (int thing = 0; thing < 9; thing++) {
            say(all, bag.thingIs(thing, 2));
        }
    }

    private static void standing(StringBuilder all, BagBottom bag) {
        all.append(" COUNTS");
        for (int what = 0; what < 9; what++) {
            say(all, bag.count(what));
        }
        for (int thing = 0; thing < bag.count(0); thing++) {
            all.append(" THING");
            for (int what = 0; what < 7; what++) {
                say(all, bag.thingIs(thing, what));
            }
        }
        all.append(" TEXTS");
        say(all, bag.law(0, 3, 5, 7));
        say(all, bag.law(1, 3, 5, 7));
    }

    private static void said(StringBuilder all, BagBottom bag) {
        all.append(" TAPE");
        say(all, bag.text(1));
        say(all, bag.law(1, 3, 5, 7));
        all.append(" WAITING");
        say(all, bag.check());
    }

    private static void say(StringBuilder all, int answer) {
        all.append(' ').append(answer);
    }

    /** Calls until nine THINGS are there, 24 numbers wait, or 60 bytes stand on THE TAPE. */
    private static int fill(BagBottom bag) {
        for (int i = 0; i < 60; i++) {
            if (bag.count(0) < 9) {
                bag.thing(i % 70, i, 1);
            }
            if (bag.count(5) < 60) {
                bag.feed('x', 1);
            }
            if (bag.count(6) < 24) {
                bag.tell(i);
            }
        }
        return 0;
    }

    /** To STEPS 9994. */
    private static int walkFar(BagBottom bag) {
        for (int i = 0; i < 99; i++) {
            bag.walks(100);
        }
        return bag.walks(9994 - bag.count(2));
    }

    private static void things() {
        refused("2 km", Due.BEYOND, bag -> bag.thing(70, 9, 9));
        refused("2 weight", Due.BEYOND, bag -> bag.thing(9, 100, 9));
        refused("2 size", Due.BEYOND, bag -> bag.thing(9, 9, 0));
        refused("2 a tenth", Due.FULL, RefusedTest::fill, bag -> bag.thing(9, 9, 9));
        refused("2 km of a tenth", Due.BEYOND, RefusedTest::fill, bag -> bag.thing(-1, 9, 9));
        refused("3 thing", Due.BEYOND, bag -> bag.thingIs(7, 0));
        refused("3 what", Due.BEYOND, bag -> bag.thingIs(0, 7));
        refused("4 thing", Due.BEYOND, bag -> bag.become(7, 11));
        refused("4 km", Due.BEYOND, bag -> bag.become(0, 70));
        refused("5 thing", Due.BEYOND, bag -> bag.as(7, 0));
        refused("5 kind", Due.BEYOND, bag -> bag.as(0, 7));
        refused("5 one above", Due.KIND, bag -> bag.as(0, 1));
        refused("5 one beside", Due.KIND, bag -> bag.as(5, 4));
        refused("6 thing", Due.BEYOND, bag -> bag.weigh(7, 1));
        refused("6 v", Due.BEYOND, bag -> bag.weigh(0, 100));
        refused("7 place", Due.BEYOND, bag -> bag.at(5));
        refused("8 thing", Due.BEYOND, bag -> bag.leave(7));
        refused("8 one that is OUT", Due.STATE, bag -> bag.leave(2));
        refused("9 thing", Due.BEYOND, bag -> bag.stow(7));
        refused("9 one that is IN", Due.STATE, bag -> bag.stow(0));
        refused("9 one in THE POCKET", Due.STATE, bag -> bag.stow(3));
        refused("10 thing", Due.BEYOND, bag -> bag.zip(7));
        refused("10 less than none", Due.BEYOND, bag -> bag.zip(-2));
        refused("10 one that is OUT", Due.STATE, bag -> bag.zip(2));
        refused("10 one in THE POCKET", Due.STATE, bag -> bag.zip(3));
    }

    private static void texts() {
        refused("11 n 0", Due.BEYOND, bag -> bag.feed('x', 0));
        refused("11 n 9", Due.BEYOND, bag -> bag.feed('x', 9));
        refused("11 sixty stand", Due.FULL, RefusedTest::fill, bag -> bag.feed('x', 1));
        refused("11 fewer would do", Due.FULL, bag -> feedTo(bag, 54), bag -> bag.feed('x', 7));
        refused("12 use", Due.BEYOND, bag -> bag.text(2));
        refused("12 use -1", Due.BEYOND, bag -> bag.text(-1));
        refused("13 use", Due.BEYOND, bag -> bag.untell(2));
        refused("14 use", Due.BEYOND, bag -> bag.law(2, 0, 0, 0));
    }

    private static int feedTo(BagBottom bag, int bytes) {
        for (int i = bag.count(5); i < bytes; i++) {
            bag.feed('1', 1);
        }
        return 0;
    }

    private static void times() {
        refused("15 thing", Due.BEYOND, bag -> bag.seconds(7, 0));
        refused("15 how", Due.BEYOND, bag -> bag.seconds(0, 3));
        refused("15 one that is OUT", Due.STATE, bag -> bag.seconds(2, 0));
        refused("16 thing", Due.BEYOND, bag -> bag.best(7, 0));
        refused("16 what", Due.BEYOND, bag -> bag.best(0, 2));
        refused("16 one that is OUT", Due.STATE, bag -> bag.best(2, 0));
        refused("17 thing", Due.BEYOND, bag -> bag.takes(7, 0));
        refused("17 how", Due.BEYOND, bag -> bag.takes(1, 3));
        refused("17 how, in THE POCKET", Due.BEYOND, bag -> bag.takes(3, -1));
        refused("17 one that is OUT", Due.STATE, bag -> bag.takes(2, 2));
        refused("18 n 0", Due.BEYOND, bag -> bag.walks(0));
        refused("18 n 101", Due.BEYOND, bag -> bag.walks(101));
        refused("18 to 10000", Due.STATE, RefusedTest::walkFar, bag -> bag.walks(6));
        refused("19 n 0", Due.BEYOND, bag -> bag.loose(0));
        refused("19 n 21", Due.BEYOND, bag -> bag.loose(21));
        refused("19 to 10000", Due.STATE, RefusedTest::walkFar, bag -> bag.loose(2));
    }

    private static void thoughts() {
        refused("21 thing", Due.BEYOND, bag -> bag.then(7, 0));
        refused("21 n", Due.BEYOND, bag -> bag.then(0, 101));
        refused("22 a RING goes up and down", Due.NONE, RefusedTest::twoRings, bag -> bag.settles());
        refused("23 n", Due.BEYOND, bag -> bag.pack(21, 0));
        refused("23 what", Due.BEYOND, bag -> bag.pack(0, 6));
        refused("23 seven", Due.STATE, RefusedTest::allIn, bag -> bag.pack(0, -1));
        refused("23 no such place", Due.NONE, bag -> bag.pack(0, 5));
        refused("24 thing", Due.BEYOND, bag -> bag.out(7, 0, 0));
        refused("24 s", Due.BEYOND, bag -> bag.out(0, 1000, 0));
        refused("24 what", Due.BEYOND, bag -> bag.out(0, 9, 2));
        refused("24 one that is OUT", Due.STATE, bag -> bag.out(2, 9, 0));
        refused("24 one that is OUT, by no set", Due.STATE, bag -> bag.out(2, 0, 0));
        refused("24 one in THE POCKET", Due.STATE, bag -> bag.out(3, 9, 0));
        refused("24 by no set", Due.NONE, bag -> bag.out(0, 3, 0));
        refused("25 s", Due.BEYOND, bag -> bag.odds(1000, 0));
        refused("25 part", Due.BEYOND, bag -> bag.odds(0, 2));
        refused("25 none is USED", Due.STATE, RefusedTest::noneUsed, bag -> bag.odds(9, 0));
        refused("26 sheet", Due.BEYOND, bag -> bag.fits(4));
        refused("26 missing", Due.NONE, bag -> bag.fits(3));
        refused("26 too many numbers", Due.NONE, bag -> bag.fits(1));
        refused("26 not by 99", Due.NONE, bag -> bag.put(0, 0, 200), bag -> bag.fits(0));
    }

    private static int allIn(BagBottom bag) {
        bag.stow(2);
        return bag.zip(-1);
    }

    private static int twoRings(BagBottom bag) {
        bag.become(0, 49);
        return bag.weigh(0, 99);
    }

    private static int noneUsed(BagBottom bag) {
        bag.text(0);
        Due.text(bag, 1, "0");
        return Due.text(bag, 0, "f");
    }

    private static void voices() {
        refused("27 thing", Due.BEYOND, bag -> bag.voice(7, 0, 0));
        refused("27 voice", Due.BEYOND, bag -> bag.voice(0, 4, 0));
        refused("27 voice -1", Due.BEYOND, bag -> bag.voice(0, -1, 0));
        refused("27 voice 4 of one that would be PARTED", Due.BEYOND, bag -> bag.become(0, 0), bag -> bag.voice(0, 4, 0));
        refused("27 PARTED, THE TRACE aside", Due.PARTED, bag -> {
            bag.become(0, 0);
            return bag.voice(0, 3, 1);
        }, bag -> bag.voice(0, 3, 2));
        refused("28 none such", Due.NONE, bag -> bag.body(5));
        refused("28 i -1", Due.NONE, bag -> bag.body(-1));
    }

    private static void sheets() {
        refused("29 sheet", Due.BEYOND, bag -> bag.sheet(4, 8, 1));
        refused("29 bits", Due.BEYOND, bag -> bag.sheet(0, 9, 1));
        refused("29 n below 0", Due.STATE, bag -> bag.sheet(0, 8, -1));
        refused("29 n 25", Due.BEYOND, bag -> bag.sheet(0, 16, 25));
        refused("30 sheet", Due.BEYOND, bag -> bag.put(4, 0, 1));
        refused("30 missing", Due.NONE, bag -> bag.put(3, 0, 1));
        refused("30 i", Due.BEYOND, bag -> bag.put(0, 5, 1));
        refused("30 i -1", Due.BEYOND, bag -> bag.put(0, -1, 1));
        refused("31 sheet", Due.BEYOND, bag -> bag.move(4, 0, 0, 1, 1));
        refused("31 other", Due.BEYOND, bag -> bag.move(0, 0, 4, 1, 1));
        refused("31 one missing", Due.NONE, bag -> bag.move(3, 0, 0, 1, 1));
        refused("31 the other missing", Due.NONE, bag -> bag.move(0, 0, 3, 0, 1));
        refused("31 unlike bits", Due.KIND, bag -> bag.move(0, 0, 1, 0, 1));
        refused("31 n", Due.BEYOND, bag -> bag.move(0, 0, 0, 1, -1));
        refused("31 i", Due.BEYOND, bag -> bag.move(0, -1, 0, 1, 2));
        refused("31 j", Due.BEYOND, bag -> bag.move(0, 1, 0, -1, 2));
        refused("31 they don't stand there", Due.BEYOND, bag -> bag.move(0, 3, 0, 0, 3));
        refused("31 they would not stand there", Due.BEYOND, bag -> bag.move(0, 0, 0, 3, 3));
        refused("32 sheet", Due.BEYOND, bag -> bag.weights(4));
        refused("32 missing", Due.NONE, bag -> bag.weights(3));
        refused("33 sheet", Due.BEYOND, bag -> bag.judge(4));
        refused("33 missing", Due.NONE, bag -> bag.judge(3));
    }

    private static void toldAndKept() {
        refused("36 24 wait", Due.FULL, RefusedTest::fill, bag -> bag.tell(1));
        refused("38 what", Due.BEYOND, bag -> bag.count(9));
        refused("39 k 0", Due.BEYOND, bag -> bag.told(0));
        refused("39 k 7", Due.BEYOND, bag -> bag.told(7));

        BagBottom bag = Due.plain(1, 2);
        due.is("35 without an IMAGE", bag.restore(), Due.NONE);
        due.order("35 nothing is brought back", bag, "10");
        due.is("35 it is told", bag.told(2), 1);
        due.is("35 there is still none", bag.restore(), Due.NONE);
        due.is("34 none was made by that", bag.image(), 1);
    }

    private static void onlyAsked() {
        asked("3 thingIs", bag -> bag.thingIs(1, 5));
        asked("5 as", bag -> bag.as(4, 1));
        asked("7 at", bag -> bag.at(4));
        asked("14 law", bag -> bag.law(0, 1, 2, 3));
        asked("15 seconds", bag -> bag.seconds(1, 2) + bag.seconds(3, 0));
        asked("16 best", bag -> bag.best(0, 0) + bag.best(0, 1));
        asked("21 then", bag -> bag.then(0, 100) + bag.then(2, 1) + bag.then(3, 1));
        asked("23 pack", bag -> bag.pack(20, -1) + bag.pack(3, 0));
        asked("24 out", bag -> bag.out(0, 20, 0) + bag.out(0, 20, 1));
        asked("25 odds", bag -> bag.odds(5, 0) + bag.odds(5, 1));
        asked("26 fits", bag -> {
            bag.put(0, 0, 4);
            for (int place = 0; place < 5; place++) {
                bag.put(0, bag.then(bag.at(place), 2), bag.at(place));
            }
            due.is("26 behind two", bag.fits(0), 2);
            int[] before = {4, 6, 1, 0, 5};
            Due.sheet(bag, 0, 8, before);
            return 0;
        });
        asked("28 body", bag -> bag.body(0));
        asked("33 judge", bag -> bag.judge(0));
        asked("38 count", bag -> bag.count(8));
        asked("39 told", bag -> bag.told(6));
        BagBottom settled = Due.plain(1, 2, 3);
        due.is("22 settles", settled.settles(), 2);
        due.order("22 changes nothing", settled, "210");
        due.is("22 nor STEPS", settled.count(2), 0);
    }
}
