/** Promises 29 to 33: SHEETS. */
public final class SheetsTest {
    private static final Due due = new Due("SheetsTest");

    public static void main(String[] args) {
        sheet();
        put();
        move();
        moveWrong();
        weights();
        judge();
        due.end();
    }

    /** Whether a SHEET's number i is a WEIGHT, and which: it comes to a THING. */
    private static int weightAt(BagBottom bag, int sheet, int i) {
        bag.sheet(3, 8, 1);
        bag.sheet(2, 16, 1);
        bag.sheet(1, 32, 1);
        int other = bag.move(sheet, i, 3, 0, 1) == 1 ? 3 : bag.move(sheet, i, 2, 0, 1) == 1 ? 2 : 1;
        if (other == 1) {
            bag.move(sheet, i, 1, 0, 1);
        }
        return bag.weights(other) == 1 ? bag.thingIs(0, 2) : -1;
    }

    private static void sheet() {
        BagBottom bag = Due.plain(50);
        for (int bits : new int[] {8, 16, 32}) {
            due.is("29 of bits " + bits, bag.sheet(0, bits, 24), 1);
            due.is("29 its last number is 0", weightAt(bag, 0, 23), 0);
            due.is("29 it has no more", bag.put(0, 24, 1), Due.BEYOND);
        }
        due.is("29 none at all", bag.sheet(0, 8, 0), 1);
        due.is("29 not even one", bag.put(0, 0, 1), Due.BEYOND);
        due.is("29 missing, n doesn't matter", bag.sheet(0, 0, -1), 1);
        due.is("29 it is missing", bag.judge(0), Due.NONE);
        due.is("29 missing, n 25", bag.sheet(0, 0, 25), 1);
        for (int bits : new int[] {-8, 1, 7, 9, 15, 24, 31, 33, 64}) {
            due.is("29 bits " + bits, bag.sheet(0, bits, 1), Due.BEYOND);
        }
        due.is("29 n 25", bag.sheet(0, 8, 25), Due.BEYOND);
        due.is("29 n -1", bag.sheet(0, 8, -1), Due.STATE);
        due.is("29 n least", bag.sheet(0, 32, Integer.MIN_VALUE), Due.STATE);
        due.is("29 BEYOND of bits ahead of STATE", bag.sheet(0, 7, -1), Due.BEYOND);
        due.is("29 sheet 4", bag.sheet(4, 8, 1), Due.BEYOND);
        due.is("29 sheet -1, ahead of STATE", bag.sheet(-1, 8, -1), Due.BEYOND);
        due.is("29 sheet 4, missing", bag.sheet(4, 0, 1), Due.BEYOND);
        due.is("29 it is still missing", bag.judge(0), Due.NONE);
        Due.sheet(bag, 0, 8, 7, 7);
        bag.sheet(0, 8, 2);
        due.is("29 all 0 again", weightAt(bag, 0, 0) + weightAt(bag, 0, 1), 0);
        Due.sheet(bag, 0, 8, 7, 7);
        due.is("29 an ERROR leaves it", bag.sheet(0, 8, 25), Due.BEYOND);
        due.is("29 as it was", weightAt(bag, 0, 1), 7);
    }

    private static void put() {
        BagBottom bag = Due.plain(50);
        bag.sheet(0, 8, 2);
        due.is("30 a number", bag.put(0, 1, 99), 1);
        due.is("30 it is there", weightAt(bag, 0, 1), 99);
        due.is("30 the other is as it was", weightAt(bag, 0, 0), 0);
        due.is("30 256 in 8 bits", bag.put(0, 0, 256 + 42), 1);
        due.is("30 its lowest bits", weightAt(bag, 0, 0), 42);
        bag.put(0, 0, 128);
        due.is("30 128 in 8 bits", weightAt(bag, 0, 0), -1);
        bag.put(0, 0, -256);
        due.is("30 -256 in 8 bits", weightAt(bag, 0, 0), 0);
        bag.sheet(0, 16, 1);
        bag.put(0, 0, 256 + 42);
        due.is("30 298 in 16 bits", weightAt(bag, 0, 0), -1);
        bag.put(0, 0, 65536 + 43);
        due.is("30 65579 in 16 bits", weightAt(bag, 0, 0), 43);
        bag.sheet(0, 32, 1);
        bag.put(0, 0, 65536 + 43);
        due.is("30 65579 in 32 bits", weightAt(bag, 0, 0), -1);
        bag.put(0, 0, 44);
        due.is("30 44 in 32 bits", weightAt(bag, 0, 0), 44);
        bag.put(0, 0, Integer.MIN_VALUE);
        due.is("30 the least in 32 bits", weightAt(bag, 0, 0), -1);
        due.is("30 no such number", bag.put(0, 1, 0), Due.BEYOND);
        due.is("30 number -1", bag.put(0, -1, 0), Due.BEYOND);
        bag.sheet(0, 0, 0);
        due.is("30 missing, ahead of number -1", bag.put(0, -1, 0), Due.NONE);
        due.is("30 sheet 4", bag.put(4, 0, 0), Due.BEYOND);
        due.is("30 sheet -1", bag.put(-1, 0, 0), Due.BEYOND);
    }

    private static void has(String what, BagBottom bag, int sheet, int... numbers) {
        for (int i = 0; i < numbers.length; i++) {
            bag.sheet(3, 8, 1);
            bag.move(sheet, i, 3, 0, 1);
            bag.weights(3);
            due.is(what + ", number " + i, bag.thingIs(0, 2), numbers[i]);
        }
    }

    private static void move() {
        BagBottom bag = Due.plain(50);
        Due.sheet(bag, 0, 8, 1, 2, 3, 4, 5);
        bag.sheet(1, 8, 4);
        due.is("31 to another", bag.move(0, 1, 1, 2, 2), 2);
        has("31 there", bag, 1, 0, 0, 2, 3);
        has("31 here as before", bag, 0, 1, 2, 3, 4, 5);
        due.is("31 down within the same", bag.move(0, 0, 0, 1, 4), 4);
        has("31 as they all were", bag, 0, 1, 1, 2, 3, 4);
        due.is("31 up within the same", bag.move(0, 1, 0, 0, 4), 4);
        has("31 as they all were", bag, 0, 1, 2, 3, 4, 4);
        due.is("31 none", bag.move(0, 5, 1, 4, 0), 0);
        due.is("31 onto itself", bag.move(0, 0, 0, 0, 5), 5);
        has("31 the same", bag, 0, 1, 2, 3, 4, 4);
    }

    private static void moveWrong() {
        BagBottom bag = Due.plain(50);
        Due.sheet(bag, 0, 8, 1, 2, 3);
        Due.sheet(bag, 1, 8, 4, 5);
        Due.sheet(bag, 2, 16, 6, 7);
        int most = Integer.MAX_VALUE;
        int[][] wrong = {
            {-1, 1, 0, 1}, {0, -1, 0, 1}, {0, 1, -1, 1}, {0, 1, 0, -1}, {3, 1, 0, 1}, {0, 1, 2, 1}, {0, 1, 0, 3},
            {2, 1, 0, 2}, {4, 1, 0, 0}, {0, 1, 3, 0}, {most, 1, 0, 1}, {1, 1, most, 1}, {1, 1, 1, most}
        };
        for (int[] w : wrong) {
            due.is("31 move(0, " + w[0] + ", " + w[1] + ", " + w[2] + ", " + w[3] + ")",
                bag.move(0, w[0], w[1], w[2], w[3]), Due.BEYOND);
        }
        due.is("31 unlike bits", bag.move(0, 0, 2, 0, 1), Due.KIND);
        due.is("31 KIND ahead of the second BEYOND", bag.move(0, -1, 2, 0, 99), Due.KIND);
        due.is("31 one missing", bag.move(0, 0, 3, 0, 1), Due.NONE);
        due.is("31 the other missing", bag.move(3, 0, 0, 0, 1), Due.NONE);
        due.is("31 NONE ahead of BEYOND", bag.move(3, -1, 0, 0, 99), Due.NONE);
        due.is("31 sheet 4 ahead of NONE", bag.move(3, 0, 4, 0, 1), Due.BEYOND);
        due.is("31 from sheet -1", bag.move(-1, 0, 3, 0, 1), Due.BEYOND);
        has("31 an ERROR changes nothing", bag, 1, 4, 5);
    }

    private static void weights() {
        BagBottom bag = Due.plain(50, 51, 52);
        bag.leave(1);
        bag.zip(2);
        Due.sheet(bag, 0, 16, 0, 99, 7);
        due.is("32 all", bag.weights(0), 3);
        due.is("32 the first", bag.thingIs(0, 2), 0);
        due.is("32 of one OUT, too", bag.thingIs(1, 2), 99);
        due.is("32 of one in THE POCKET, too", bag.thingIs(2, 2), 7);
        Due.sheet(bag, 0, 16, 1, 100, 2);
        due.is("32 up to 100", bag.weights(0), 1);
        due.is("32 the one ahead became it", bag.thingIs(0, 2), 1);
        due.is("32 not the one itself", bag.thingIs(1, 2), 99);
        due.is("32 nor one behind", bag.thingIs(2, 2), 7);
        Due.sheet(bag, 0, 32, -1, 1);
        due.is("32 up to -1", bag.weights(0), 0);
        due.is("32 the first stays", bag.thingIs(0, 2), 1);
        Due.sheet(bag, 0, 8, 10, 11, 12, 13, 14);
        due.is("32 more than THINGS", bag.weights(0), 3);
        Due.sheet(bag, 0, 8, 20);
        due.is("32 fewer than THINGS", bag.weights(0), 1);
        due.is("32 the second stays", bag.thingIs(1, 2), 11);
        bag.sheet(0, 8, 0);
        due.is("32 no numbers", bag.weights(0), 0);
        due.is("32 no ERROR", bag.told(1) + bag.told(2), 0);
        due.is("32 missing", bag.weights(1), Due.NONE);
        due.is("32 sheet 4", bag.weights(4), Due.BEYOND);
        due.is("32 sheet -1", bag.weights(-1), Due.BEYOND);
    }

    private static void judge() {
        BagBottom bag = Due.plain(0, 0, 0);
        int[][] told = {{2, 1, 0}, {2, 1, 1}, {2, 0, 0}, {1, 1, 0}, {2, 1, 0, 0}, {2, 1}, {}};
        int[] want = {3, 2, 1, 0, 3, 2, 0};
        for (int i = 0; i < told.length; i++) {
            Due.sheet(bag, 0, 32, told[i]);
            due.is("33 judge " + i, bag.judge(0), want[i]);
        }
        due.is("33 missing", bag.judge(1), Due.NONE);
        due.is("33 sheet 4", bag.judge(4), Due.BEYOND);
        due.is("33 sheet -1", bag.judge(-1), Due.BEYOND);
        bag.leave(2);
        Due.sheet(bag, 0, 8, 1, 0);
        due.is("33 without what is OUT", bag.judge(0), 2);
        bag.leave(1);
        bag.leave(0);
        due.is("33 where nothing lies", bag.judge(0), 0);
    }
}
