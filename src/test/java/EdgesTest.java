/** What is empty, alone, or full; what wraps around; what is more than 9999 or 99999. */
public final class EdgesTest {
    private static final int LEAST = Integer.MIN_VALUE;
    private static final int MOST = Integer.MAX_VALUE;
    private static final Due due = new Due("EdgesTest");

    private interface Act {
        int on(BagBottom bag);
    }

    public static void main(String[] args) {
        noThings();
        nothingIn();
        onlyThePocket();
        alone();
        nine();
        fullOfAll();
        sixToPack();
        secondsHeld();
        stepsAtTheirMost();
        thoughtBehindTheMost();
        textsWrap();
        voicesWrap();
        drawsWrap();
        drawsWithSomeOut();
        sheetsWrap();
        callsOfOneObject();
        due.end();
    }

    private static void noThings() {
        Act[] ofThing0 = {
            bag -> bag.thingIs(0, 0), bag -> bag.become(0, 0), bag -> bag.as(0, 0), bag -> bag.weigh(0, 0),
            bag -> bag.at(0), bag -> bag.leave(0), bag -> bag.stow(0), bag -> bag.zip(0), bag -> bag.seconds(0, 0),
            bag -> bag.best(0, 0), bag -> bag.takes(0, 0), bag -> bag.then(0, 0), bag -> bag.out(0, 0, 0),
            bag -> bag.voice(0, 0, 0)
        };
        BagBottom bag = new BagBottom();
        for (int i = 0; i < ofThing0.length; i++) {
            due.is("1 no THING 0, act " + i, ofThing0[i].on(bag), Due.BEYOND);
        }
        due.is("39 each is told", bag.told(1), ofThing0.length);
        due.is("10 zip of nothing", bag.zip(-1), -1);
        due.is("18 walks", bag.walks(100), 100);
        due.is("19 loose: one draw for each", bag.loose(2), 0);
        int z = next(next(1));
        due.is("19 z", bag.count(8), z);
        due.is("19 STEPS", bag.count(2), 100 + given(next(1)) % 3 + 1 + given(z) % 3 + 1);
        due.is("22 settles", bag.settles(), 0);
        due.is("23 pack", bag.pack(20, -1), 0);
        due.is("23 no first", bag.pack(0, 0), Due.NONE);
        due.is("25 odds above", bag.odds(999, 0), Due.STATE);
        due.is("25 odds below", bag.odds(0, 1), Due.STATE);
        for (int sheet = 0; sheet < 4; sheet++) {
            due.is("26 one that is missing doesn't fit an empty bag", bag.fits(sheet), Due.NONE);
            due.is("32 one that is missing has no WEIGHTS", bag.weights(sheet), Due.NONE);
            due.is("33 nor is it judged", bag.judge(sheet), Due.NONE);
        }
        for (int bits : new int[] {8, 16, 32}) {
            bag.sheet(0, bits, 0);
            due.is("26 no numbers fit", bag.fits(0), 0);
            bag.sheet(0, bits, 1);
            due.is("26 one is too many", bag.fits(0), Due.NONE);
            due.is("32 there is no THING for it", bag.weights(0), 0);
            due.is("33 nothing lies there", bag.judge(0), 0);
        }
        bag.tell(0);
        due.is("37 nothing lies there", bag.check(), 1);
        due.is("37 none wait", bag.check(), 0);
        due.is("12 an empty TAPE", bag.text(1), -10);
        due.is("34 image", bag.image(), 1);
        due.is("35 restore", bag.restore(), bag.count(2));
    }

    private static void nothingIn() {
        BagBottom bag = Due.plain(3, 2, 1);
        for (int thing = 0; thing < 3; thing++) {
            due.is("8 leave", bag.leave(thing), 2 - thing);
        }
        due.is("7 at", bag.at(0), Due.BEYOND);
        due.is("18 walks", bag.walks(3), 3);
        due.is("22 settles", bag.settles(), 0);
        due.is("23 pack", bag.pack(3, -1), 0);
        due.is("23 no first", bag.pack(3, 0), Due.NONE);
        due.is("25 odds", bag.odds(999, 1), Due.STATE);
        for (int thing = 0; thing < 3; thing++) {
            due.is("21 then", bag.then(thing, 100), -2);
            due.is("16 best", bag.best(thing, 1), Due.STATE);
            due.is("24 out", bag.out(thing, 999, 0), Due.STATE);
            due.is("10 zip", bag.zip(thing), Due.STATE);
        }
        due.is("10 nothing changes places with nothing", bag.zip(-1), -1);
        due.is("9 the first in", bag.stow(1), 1);
        due.is("7 it lies there", bag.at(0), 1);
    }

    private static void onlyThePocket() {
        BagBottom bag = Due.plain(3, 2);
        bag.leave(0);
        due.is("10 in", bag.zip(1), -1);
        due.is("38 nothing is IN", bag.count(1), 0);
        due.is("15 by feeling", bag.seconds(1, 0), 4);
        due.is("15 tipped out", bag.seconds(1, 2), 4);
        due.is("17 takes", bag.takes(1, 1), 4);
        due.is("17 it stays", bag.thingIs(1, 4), -1);
        due.is("21 then", bag.then(1, 0), -1);
        due.is("22 settles", bag.settles(), 0);
        due.is("23 pack", bag.pack(0, -1), 0);
        due.is("24 out", bag.out(1, 999, 0), Due.STATE);
        due.is("25 not within 3, above", bag.odds(3, 0), 0);
        due.is("25 not within 3, below", bag.odds(3, 1), 1);
        due.is("25 within 4, above", bag.odds(4, 0), 1);
        due.is("25 within 4, below", bag.odds(4, 1), 1);
        due.is("8 out of it", bag.leave(1), 0);
        due.is("38 it is empty", bag.count(4), -1);
        due.is("10 nothing was in it", bag.zip(-1), -1);
        due.order("8 it is OUT, not IN", bag, "");
    }

    private static void alone() {
        BagBottom bag = new BagBottom();
        bag.thing(7, 99, 9);
        due.is("15 by feeling", bag.seconds(0, 0), 9);
        due.is("15 by light", bag.seconds(0, 1), 3);
        due.is("15 tipped out", bag.seconds(0, 2), 11);
        due.is("17 tipped out", bag.takes(0, 2), 11);
        due.order("17 it lies there", bag, "0");
        due.is("18 a STEP changes nothing", bag.walks(1), 1);
        due.order("18 it lies there", bag, "0");
        due.is("22 settles", bag.settles(), 0);
        due.is("23 pack", bag.pack(0, -1), 63);
        due.is("23 it is the first", bag.pack(0, 0), 0);
        due.is("23 there is no second", bag.pack(0, 1), Due.NONE);
        due.is("24 none need go", bag.out(0, 9, 0), 0);
        due.is("24 the empty set", bag.out(0, 9, 1), 0);
        due.is("24 by no set", bag.out(0, 8, 0), Due.NONE);
        due.is("8 the last goes", bag.leave(0), 0);
        due.is("9 and comes", bag.stow(0), 1);
        due.is("10 into THE POCKET", bag.zip(0), -1);
        due.is("10 and out of it", bag.zip(-1), 0);
        due.order("10 on top of nothing", bag, "0");
    }

    private static void nine() {
        BagBottom bag = Due.plain(8, 7, 6, 5, 4, 3, 2, 1, 0);
        due.is("2 a tenth", bag.thing(0, 0, 1), Due.FULL);
        due.is("7 the ninth place", bag.at(8), 0);
        due.is("7 a tenth", bag.at(9), Due.BEYOND);
        due.is("15 by feeling", bag.seconds(0, 0), 9 + 36);
        due.is("15 by light", bag.seconds(0, 1), 19);
        due.is("15 tipped out", bag.seconds(0, 2), 27);
        due.is("22 sinking already", bag.settles(), 0);
        due.is("24 all others", bag.out(0, 1, 1), 510);
        due.is("24 how many", bag.out(0, 1, 0), 8);
        due.is("24 by no set", bag.out(0, 0, 0), Due.NONE);
        due.is("17 tipped out", bag.takes(0, 2), 27);
        due.order("17 turned over", bag, "012345678");
        due.is("18 the heaviest goes down eight places", bag.walks(1), 1);
        due.order("18 by one STEP", bag, "123456780");
        due.is("21 all settled behind eight", bag.then(8, 7), 0);
        Due.sheet(bag, 0, 8, 0, 1, 2, 3, 4, 5, 6, 7, 8, 9);
        due.is("32 there is no tenth THING", bag.weights(0), 9);
        Due.sheet(bag, 0, 8, 1, 2, 3, 4, 5, 6, 7, 8, 0, 0);
        due.is("33 nothing lies at a tenth place", bag.judge(0), 9);
        due.is("26 a tenth number", bag.fits(0), Due.NONE);
        for (int v : new int[] {1, 2, 3, 4, 5, 6, 7, 8, 0, 0}) {
            bag.tell(v);
        }
        due.is("37 nothing lies at a tenth place", bag.check(), 10);
        due.is("10 the lowest into THE POCKET", bag.zip(0), -1);
        due.is("10 another in place of it", bag.zip(8), 0);
        due.order("10 eight are IN", bag, "01234567");
    }

    private static void fullOfAll() {
        BagBottom bag = new BagBottom();
        for (int i = 1; i <= 7; i++) {
            due.is("11 eight bytes", bag.feed(0x3131313131313131L, 8), 8 * i);
        }
        for (int n = 8; n > 4; n--) {
            due.is("11 " + n + " more than 60", bag.feed(0x31, n), Due.FULL);
        }
        due.is("11 n 0 ahead of FULL", bag.feed(0x31, 0), Due.BEYOND);
        due.is("11 three", bag.feed(0x313131, 3), 59);
        due.is("11 two are too many", bag.feed(0x3131, 2), Due.FULL);
        due.is("11 the sixtieth", bag.feed(0x31, 1), 60);
        due.is("11 one is too many", bag.feed(0x31, 1), Due.FULL);
        due.is("12 a NUMBER of sixty digits", bag.text(0), -14);
        due.is("11 there is room again", bag.feed(0x31, 1), 1);
        String sum = "1+1+1+1+1+1+1+1+1+1+1+1+1+1+1+1+1+1+1+1+1+1+1+1+1+1+1+1+1+11";
        bag.text(0);
        due.is("12 sixty bytes", Due.text(bag, 0, sum), 1);
        due.is("14 all of them count", bag.law(0, 0, 0, 0), 29 + 11);
        due.is("12 sixty bytes that end too early", Due.text(bag, 0, sum.substring(0, 59) + "*"), -70);
        due.is("12 the one ahead stays", bag.law(0, 0, 0, 0), 40);

        for (int i = 1; i <= 24; i++) {
            due.is("36 number " + i, bag.tell(0), i);
        }
        due.is("36 a 25th", bag.tell(0), Due.FULL);
        due.is("38 24 wait", bag.count(6), 24);
        due.is("37 they are not THE ORDER", bag.check(), 1);
        due.is("36 there is room again", bag.tell(0), 1);
    }

    private static void sixToPack() {
        BagBottom bag = Due.plain(0, 0, 0, 0, 0, 0, 0);
        due.is("23 seven are IN", bag.pack(0, -1), Due.STATE);
        bag.zip(3);
        due.is("23 six", bag.pack(0, -1), 6 + 5 * 3 + 4 * 6 + 2 * 10 + 15 + 0);
        int[] row = {6, 5, 4, 2, 1, 0};
        for (int place = 0; place < row.length; place++) {
            due.is("23 place " + place, bag.pack(0, place), row[place]);
        }
        due.is("23 seven again", bag.zip(-1) + bag.pack(0, 0), 3 + Due.STATE);
        bag.leave(0);
        bag.leave(6);
        due.is("23 five", bag.pack(0, 4), 1);
        due.is("23 five have no sixth", bag.pack(0, 5), Due.NONE);
        Due.text(bag, 1, "0");
        for (int place = 0; place < 5; place++) {
            due.is("23 all come to 0: the first by numbers", bag.pack(0, place), 1 + place);
        }
    }

    private static void secondsHeld() {
        BagBottom bag = Due.plain(0, 0, 0, 0, 0, 0, 0, 0, 0);
        Due.text(bag, 0, "99");
        for (int i = 0; i < 112; i++) {
            bag.takes(i % 9, 0);
        }
        due.is("17 SECONDS", bag.count(3), 99792);
        for (int i = 1; i <= 68; i++) {
            bag.takes(bag.at(0), 1);
        }
        due.is("17 near their most", bag.count(3), 99996);
        bag.image();
        due.is("17 three more", bag.takes(bag.at(0), 1), 3);
        due.is("17 are just as many", bag.count(3), 99999);
        due.is("17 and three more", bag.takes(bag.at(0), 1), 3);
        due.is("17 are no more", bag.count(3), 99999);
        due.is("19 loose", bag.loose(1), 99999);
        bag.restore();
        due.is("35 as it was", bag.count(3), 99996);
        bag.zip(bag.at(0));
        due.is("17 four of THE POCKET", bag.takes(bag.count(4), 0), 4);
        due.is("17 are one too many", bag.count(3), 99999);
        bag.restore();
        bag.untell(0);
        due.is("19 loose holds them, too", bag.loose(20), 99999);
        due.is("38 count(3)", bag.count(3), 99999);
    }

    private static void toSteps(BagBottom bag, int steps) {
        while (bag.count(2) < steps) {
            bag.walks(Math.min(100, steps - bag.count(2)));
        }
    }

    private static void stepsAtTheirMost() {
        BagBottom bag = Due.plain(1, 2);
        toSteps(bag, 9899);
        due.is("18 a hundred are just as many", bag.walks(100), 9999);
        due.is("18 one is too many", bag.walks(1), Due.STATE);
        due.is("18 a hundred are too many", bag.walks(100), Due.STATE);
        due.is("18 n 101 is BEYOND all the same", bag.walks(101), Due.BEYOND);
        due.is("19 one draw is too many", bag.loose(1), Due.STATE);
        due.is("19 n 21 is BEYOND all the same", bag.loose(21), Due.BEYOND);
        due.is("38 they stay", bag.count(2), 9999);
        due.is("17 one can still take", bag.takes(1, 1), 5);

        BagBottom other = Due.plain(1, 2);
        toSteps(other, 9900);
        due.is("18 a hundred are one too many", other.walks(100), Due.STATE);
        toSteps(other, 9996);
        due.is("19 six might be too many", other.loose(2), Due.STATE);
        due.is("19 nothing was drawn", other.count(8), 1);
        due.is("19 three are never too many", other.loose(1) < 0 ? 1 : 0, 0);
        due.is("18 9999 at most", other.count(2) <= 9999 ? 1 : 0, 1);

        BagBottom late = Due.plain(1, 2);
        toSteps(late, 9997);
        due.is("19 three might be too many", late.loose(1), Due.STATE);
        due.is("18 two are not", late.walks(2), 9999);
    }

    /** A RING goes down at even STEPS and comes up at odd ones, beyond 9999 too. */
    private static void thoughtBehindTheMost() {
        BagBottom bag = new BagBottom();
        bag.thing(1, 10, 1);
        bag.thing(47, 10, 1);
        toSteps(bag, 9999);
        due.order("21 at 9999", bag, "01");
        due.is("21 at 10000", bag.then(1, 1), 0);
        due.is("21 at 10001", bag.then(1, 2), 1);
        due.is("21 at 10098", bag.then(1, 99), 0);
        due.is("21 at 10099", bag.then(1, 100), 1);
        due.is("22 never", bag.settles(), Due.NONE);
        Due.sheet(bag, 0, 8, 1, 0);
        due.is("26 at 10000", bag.fits(0), 1);
        Due.sheet(bag, 0, 8, 0, 1);
        due.is("26 now", bag.fits(0), 0);
        // The RING, FEELS 0, is USED 7; the other, FEELS 1, is USED 1.
        due.is("23 the RING is above at 10000", bag.pack(1, -1), 0 + 2);
        due.is("23 it is below at 10001", bag.pack(2, -1), 1 + 7 * 2);
        due.is("23 and above at 10018", bag.pack(19, -1), 2);
        due.is("38 STEPS stay", bag.count(2), 9999);

        BagBottom three = new BagBottom();
        three.thing(40, 20, 1);
        three.thing(0, 2, 1);
        three.thing(0, 1, 1);
        toSteps(three, 9999);
        three.takes(1, 1);
        due.order("26 at 9999", three, "120");
        Due.sheet(three, 0, 8, 2, 0, 1);
        due.is("26 at 10000 the RING has come up", three.fits(0), 1);
        Due.sheet(three, 0, 8, 2, 1, 0);
        due.is("26 at 10001 it has gone down", three.fits(0), 2);
        three.weigh(0, 0);
        due.is("22 without its WEIGHT", three.settles(), 2);
    }

    private static void law(String text, int f, int d, int want) {
        BagBottom bag = new BagBottom();
        Due.text(bag, 0, text);
        due.is("14 " + text + " of " + f + ", " + d, bag.law(0, f, d, 0), want);
    }

    private static void textsWrap() {
        law("f+d", MOST, 1, 0);
        law("f+d", LEAST, -1, 99);
        law("f+d", LEAST, LEAST, 0);
        law("f-d", LEAST, 1, 99);
        law("f-d", MOST, -1, 0);
        law("7-(0-f=f)", LEAST, 0, 6);
        law("f*d", 65536, 32768, 0);
        law("f*d", 65536, 65536, 0);
        law("f*d+5", 65536, 65536, 5);
        law("f*d", 65537, 65537, 99);
        law("f*d=f", LEAST, -1, 1);
        law("9999*9999*f>0", 21, 0, 1);
        law("9999*9999*f>0", 22, 0, 0);
        law("f/d=f", LEAST, -1, 1);
        law("5+f%d", LEAST, -1, 5);
        law("5+f/d", LEAST, 0, 5);
        law("5+f%d", LEAST, 0, 5);
        law("f<d", LEAST, MOST, 1);
        law("f>d", LEAST, MOST, 0);
        law("f>d", MOST, LEAST, 1);
        BagBottom bag = new BagBottom();
        due.is("14 f+d without a TEXT wraps, too", bag.law(0, MOST, MOST, 0), 0);
        due.is("14 and from below", bag.law(0, LEAST, LEAST + 7, 0), 7);
    }

    private static void speaks(String what, int thing, int km, int voice, int x, int want) {
        BagBottom bag = Due.plain(0, 0, 0, 0, 0, 0);
        bag.become(thing, km);
        due.is("27 " + what, bag.voice(thing, voice, x), want);
        for (int k = 1; k <= 6; k++) {
            due.is("27 " + what + " is no ERROR", bag.told(k), 0);
        }
    }

    private static void voicesWrap() {
        speaks("BODY 10", 5, 0, 0, MOST, LEAST + 4);
        speaks("BODY 11", 0, 0, 1, 1 << 30, LEAST);
        speaks("BODY 11 twice around", 0, 0, 1, LEAST, 0);
        speaks("BODY 12", 0, 1, 2, 1 << 30, MOST);
        speaks("BODY 13 by -1", 5, 4, 3, LEAST, LEAST);
        speaks("BODY 20", 0, 10, 0, LEAST + 3, MOST);
        speaks("BODY 21", 5, 16, 3, MOST, LEAST + 3);
        speaks("BODY 30", 0, 20, 1, 1 << 30, LEAST);
        speaks("BODY 40", 0, 30, 2, LEAST, LEAST);
        speaks("BODY 40, cut toward 0", 0, 30, 2, -3, -2);
        speaks("BODY 50", 4, 40, 0, 1 << 30, -(1 << 30));
        speaks("BODY 51", 4, 41, 2, 1 << 30, MOST ^ 4);
        speaks("BODY 60", 0, 50, 1, MOST, 0);
        speaks("BODY 60 with k 1", 1, 50, 1, MOST, -2 * (LEAST + 1));
        speaks("an answer like BEYOND", 0, 0, 0, Due.BEYOND, Due.BEYOND);
        speaks("an answer like PARTED", 0, 1, 3, Due.PARTED, Due.PARTED);
    }

    /** As longs tell it: what is left of a number within 32 bits. */
    private static int next(int z) {
        return (int) (z * 1103515245L + 12345L);
    }

    private static int given(int z) {
        return (int) ((z & 0xffffffffL) / 256);
    }

    private static void drawsWrap() {
        int[] seeds = {0, 1, -1, LEAST, MOST, 77, -77, 123456789, -987654321, 5, 6, 7};
        for (int seed : seeds) {
            BagBottom bag = Due.plain(0, 0, 0, 0, 0, 0, 0);
            bag.seed(seed);
            int thing = given(next(seed)) % 7;
            int steps = given(next(next(seed))) % 3 + 1;
            int time = bag.best(thing, 1);
            due.is("19 SECONDS of seed " + seed, bag.loose(1), time);
            due.is("19 on top by seed " + seed, bag.at(0), thing);
            due.is("19 STEPS of seed " + seed, bag.count(2), steps);
            due.is("19 z of seed " + seed, bag.count(8), next(next(seed)));
        }
    }

    /** The rest is by how many THINGS there are, not by how many are IN; one that is OUT is not TAKEN. */
    private static void drawsWithSomeOut() {
        for (int seed = 1; seed <= 20; seed++) {
            BagBottom bag = Due.plain(0, 0, 0, 0, 0, 0, 0);
            bag.leave(0);
            bag.leave(5);
            bag.zip(3);
            bag.seed(seed);
            int thing = given(next(seed)) % 7;
            boolean isOut = thing == 0 || thing == 5;
            int time = isOut ? 0 : bag.best(thing, 1);
            int top = isOut || thing == 3 ? 6 : thing;
            due.is("19 SECONDS, some OUT, by seed " + seed, bag.loose(1), time);
            due.is("19 on top, some OUT, by seed " + seed, bag.at(0), top);
            due.is("19 z, some OUT, by seed " + seed, bag.count(8), next(next(seed)));
            due.is("19 THE POCKET, some OUT, by seed " + seed, bag.count(4), 3);
        }
    }

    private static void sheetsWrap() {
        BagBottom bag = Due.plain(0, 0, 0);
        Due.sheet(bag, 0, 8, 256 + 2, -255, 0);
        due.is("30 the lowest 8 bits", bag.judge(0), 3);
        due.is("26 they fit", bag.fits(0), 0);
        Due.sheet(bag, 0, 16, 65536 + 2, -65535, LEAST);
        due.is("30 the lowest 16 bits", bag.judge(0), 3);
        Due.sheet(bag, 0, 16, 256 + 2, 1, 0);
        due.is("30 256 is kept of 16 bits", bag.judge(0), 0);
        Due.sheet(bag, 0, 32, 2, 1, LEAST);
        due.is("30 all of 32 bits", bag.judge(0), 2);
        Due.sheet(bag, 0, 32, 2, 65536 + 1, 0);
        due.is("30 65536 is kept of 32 bits", bag.judge(0), 1);
        for (int bits : new int[] {8, 16, 32}) {
            Due.sheet(bag, 0, bits, -1, 0);
            due.is("32 -1 is no WEIGHT of " + bits + " bits", bag.weights(0), 0);
            Due.sheet(bag, 0, bits, 99, 100, 0);
            due.is("32 99 is one, 100 is none, of " + bits + " bits", bag.weights(0), 1);
            due.is("32 it has come", bag.thingIs(0, 2), 99);
            due.is("32 the next has not", bag.thingIs(1, 2), 0);
        }
    }

    /** An object is used for 512 calls: the dearest one answers the last time as it did the first. */
    private static void callsOfOneObject() {
        BagBottom bag = new BagBottom();
        int[] km = {47, 52, 49, 51, 5, 38};
        for (int i = 0; i < km.length; i++) {
            bag.thing(km[i], 3 * i, 1 + i);
        }
        int first = bag.pack(20, -1);
        int same = 0;
        for (int i = 0; i < 505; i++) {
            same += bag.pack(20, -1) == first ? 1 : 0;
        }
        due.is("23 all 512 calls", same, 505);
    }
}
