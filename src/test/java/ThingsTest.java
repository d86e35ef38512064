/** Promises 1 to 10: a new object, and things. */
public final class ThingsTest {
    private static final Due due = new Due("ThingsTest");

    public static void main(String[] args) {
        newObject();
        thing();
        thingIs();
        become();
        as();
        weigh();
        at();
        leave();
        stow();
        zip();
        due.end();
    }

    private static void newObject() {
        BagBottom bag = new BagBottom();
        int[] first = {0, 0, 0, 0, -1, 0, 0, 0, 1};
        for (int what = 0; what < first.length; what++) {
            due.is("1 count(" + what + ")", bag.count(what), first[what]);
        }
        for (int k = 1; k <= 6; k++) {
            due.is("1 told(" + k + ")", bag.told(k), 0);
        }
        due.is("1 untell(0)", bag.untell(0), 0);
        due.is("1 untell(1)", bag.untell(1), 0);
        for (int sheet = 0; sheet < 4; sheet++) {
            due.is("1 judge(" + sheet + ")", bag.judge(sheet), Due.NONE);
        }
        due.is("1 restore()", bag.restore(), Due.NONE);
        due.is("1 body(0)", bag.body(0), Due.NONE);
        due.is("1 image()", bag.image(), 1);
        BagBottom used = Due.seven();
        used.walks(5);
        due.is("1 another object", new BagBottom().count(0), 0);
    }

    private static void thing() {
        BagBottom bag = new BagBottom();
        int[][] wrong = {{-1, 0, 1}, {70, 0, 1}, {0, -1, 1}, {0, 100, 1}, {0, 0, 0}, {0, 0, 10}};
        for (int[] w : wrong) {
            due.is("2 wrong thing", bag.thing(w[0], w[1], w[2]), Due.BEYOND);
        }
        due.is("2 nothing came", bag.count(0), 0);
        due.is("2 least", bag.thing(0, 0, 1), 0);
        due.is("2 most", bag.thing(69, 99, 9), 1);
        due.order("2 on top", bag, "10");
        for (int i = 2; i < 9; i++) {
            due.is("2 thing " + i, bag.thing(i, i, 1), i);
        }
        due.is("2 a tenth", bag.thing(0, 0, 1), Due.FULL);
        due.is("2 BEYOND ahead of FULL", bag.thing(70, 0, 1), Due.BEYOND);
        due.is("2 nine", bag.count(0), 9);
        due.order("2 all", bag, "876543210");
        bag.leave(4);
        due.is("2 FULL with one OUT", bag.thing(0, 0, 1), Due.FULL);
    }

    private static void thingIs() {
        BagBottom bag = Due.seven();
        int[][] want = {
            {0, 5, 40, 4, 6, 40, 4},
            {1, 3, 30, 5, 5, 33, 2},
            {2, 4, 8, 3, 4, 4, 7},
            {3, 0, 5, 2, 3, 12, 2},
            {4, 7, 20, 6, 2, 27, 2},
            {5, 2, 3, 1, 1, 1, 6},
            {6, 9, 35, 7, 0, 35, 9}
        };
        for (int thing = 0; thing < 7; thing++) {
            for (int what = 0; what < 7; what++) {
                due.is("3 thingIs(" + thing + ", " + what + ")", bag.thingIs(thing, what), want[thing][what]);
            }
        }
        due.is("3 what -1", bag.thingIs(0, -1), Due.BEYOND);
        due.is("3 what 7", bag.thingIs(0, 7), Due.BEYOND);
        due.is("3 thing -1", bag.thingIs(-1, 0), Due.BEYOND);
        due.is("3 thing 7", bag.thingIs(7, 0), Due.BEYOND);
        due.is("3 thing 11", bag.thingIs(11, 0), Due.BEYOND);
        bag.zip(3);
        bag.leave(2);
        due.is("3 in THE POCKET", bag.thingIs(3, 4), -1);
        due.is("3 OUT", bag.thingIs(2, 4), -2);
        int[] ring = {27, 0, 27, 0, 27, 0, 27};
        int[] ticket = {1, 2, 3, 1, 2, 3, 1};
        for (int steps = 0; steps < 7; steps++) {
            due.is("3 RING at STEPS " + steps, bag.thingIs(4, 5), ring[steps]);
            due.is("3 TICKET at STEPS " + steps, bag.thingIs(5, 5), ticket[steps]);
            bag.walks(1);
        }
        BagBottom small = new BagBottom();
        small.thing(40, 0, 1);
        small.thing(10, 0, 1);
        small.thing(39, 0, 9);
        small.thing(59, 99, 9);
        due.is("3 RING FEELS 0 at least", small.thingIs(0, 6), 0);
        due.is("3 KEYS FEEL half, cut", small.thingIs(1, 6), 0);
        due.is("3 PEN without its m", small.thingIs(2, 5), 0);
        due.is("3 TICKET's half WEIGHT, cut", small.thingIs(3, 5), 49);
        due.is("3 TICKET FEELS twice", small.thingIs(3, 6), 36);
    }

    private static void become() {
        BagBottom bag = Due.seven();
        due.is("4 of KEYS", bag.become(1, 69), 1);
        due.is("4 KIND", bag.thingIs(1, 0), 6);
        due.is("4 m", bag.thingIs(1, 1), 9);
        due.is("4 WEIGHT stays", bag.thingIs(1, 2), 30);
        due.is("4 SIZE stays", bag.thingIs(1, 3), 5);
        due.is("4 place stays", bag.thingIs(1, 4), 5);
        due.is("4 of PHONE", bag.become(1, 0), 6);
        for (int kind = 0; kind < 7; kind++) {
            bag.become(1, 10 * kind);
            due.is("4 KIND " + kind, bag.thingIs(1, 0), kind);
            due.is("4 with m 0", bag.thingIs(1, 1), 0);
        }
        bag.become(1, 0);
        due.is("4 km -1", bag.become(1, -1), Due.BEYOND);
        due.is("4 km 70", bag.become(1, 70), Due.BEYOND);
        due.is("4 thing 7", bag.become(7, 0), Due.BEYOND);
        due.is("4 thing -1", bag.become(-1, 0), Due.BEYOND);
        due.is("4 nothing changed", bag.thingIs(1, 0), 0);
    }

    private static void as() {
        BagBottom bag = Due.seven();
        String[] kinds = {"0", "01", "02", "03", "014", "025", "06"};
        int[] m = {5, 3, 4, 0, 7, 2, 9};
        for (int thing = 0; thing < 7; thing++) {
            for (int kind = 0; kind < 7; kind++) {
                boolean is = kinds[thing].indexOf('0' + kind) >= 0;
                due.is("5 as(" + thing + ", " + kind + ")", bag.as(thing, kind), is ? m[thing] : Due.KIND);
            }
        }
        due.is("5 kind 7", bag.as(0, 7), Due.BEYOND);
        due.is("5 kind -1", bag.as(0, -1), Due.BEYOND);
        due.is("5 thing 7", bag.as(7, 0), Due.BEYOND);
        due.is("5 thing -1", bag.as(-1, 5), Due.BEYOND);
    }

    private static void weigh() {
        BagBottom bag = Due.plain(7, 8);
        due.is("6 to 99", bag.weigh(0, 99), 7);
        due.is("6 to 0", bag.weigh(0, 0), 99);
        due.is("6 to 100", bag.weigh(0, 100), Due.BEYOND);
        due.is("6 to -1", bag.weigh(0, -1), Due.BEYOND);
        due.is("6 thing 2", bag.weigh(2, 1), Due.BEYOND);
        due.is("6 thing -1", bag.weigh(-1, 1), Due.BEYOND);
        due.is("6 it stays", bag.thingIs(0, 2), 0);
        due.is("6 the other stays", bag.thingIs(1, 2), 8);
    }

    private static void at() {
        BagBottom bag = new BagBottom();
        due.is("7 nothing", bag.at(0), Due.BEYOND);
        bag.thing(0, 0, 1);
        bag.thing(0, 0, 1);
        due.is("7 top", bag.at(0), 1);
        due.is("7 bottom", bag.at(1), 0);
        due.is("7 below it", bag.at(2), Due.BEYOND);
        due.is("7 above it", bag.at(-1), Due.BEYOND);
    }

    private static void leave() {
        BagBottom bag = Due.plain(0, 0, 0);
        due.is("8 the middle one", bag.leave(1), 2);
        due.order("8 without it", bag, "20");
        due.is("8 again", bag.leave(1), Due.STATE);
        due.is("8 thing 3", bag.leave(3), Due.BEYOND);
        due.is("8 thing -1", bag.leave(-1), Due.BEYOND);
        bag.zip(0);
        due.is("8 from THE POCKET", bag.leave(0), 1);
        due.is("8 THE POCKET is empty", bag.count(4), -1);
        due.is("8 it is OUT", bag.thingIs(0, 4), -2);
        due.is("8 the last", bag.leave(2), 0);
    }

    private static void stow() {
        BagBottom bag = Due.plain(0, 0, 0);
        due.is("9 one that is IN", bag.stow(0), Due.STATE);
        bag.zip(1);
        due.is("9 one in THE POCKET", bag.stow(1), Due.STATE);
        bag.leave(0);
        due.is("9 one OUT", bag.stow(0), 2);
        due.order("9 on top", bag, "02");
        due.is("9 thing 3", bag.stow(3), Due.BEYOND);
        due.is("9 thing -1", bag.stow(-1), Due.BEYOND);
    }

    private static void zip() {
        BagBottom bag = Due.plain(0, 0, 0, 0);
        due.is("10 nothing for nothing", bag.zip(-1), -1);
        due.is("10 the first", bag.zip(1), -1);
        due.order("10 out of its place", bag, "320");
        due.is("10 that one again", bag.zip(1), Due.STATE);
        due.is("10 in place of it", bag.zip(2), 1);
        due.order("10 the former on top", bag, "130");
        due.is("10 count(4)", bag.count(4), 2);
        bag.leave(3);
        due.is("10 one that is OUT", bag.zip(3), Due.STATE);
        due.is("10 thing 4", bag.zip(4), Due.BEYOND);
        due.is("10 thing -2", bag.zip(-2), Due.BEYOND);
        due.is("10 it stays", bag.count(4), 2);
        due.is("10 emptied", bag.zip(-1), 2);
        due.order("10 it is on top", bag, "210");
        due.is("10 nothing left", bag.count(4), -1);
    }
}
