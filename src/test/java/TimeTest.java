/** Promises 15 to 20: how long it takes. */
public final class TimeTest {
    private static final Due due = new Due("TimeTest");

    public static void main(String[] args) {
        seconds();
        best();
        takes();
        secondsAreHeld();
        walks();
        loose();
        seed();
        due.end();
    }

    private static void seconds() {
        BagBottom bag = Due.seven();
        // FEELS from the top: 9, 6, 2, 2, 7, 2, 4; each and its place.
        int[] byFeeling = {53, 43, 36, 25, 20, 16, 9};
        for (int thing = 0; thing < 7; thing++) {
            due.is("15 by feeling " + thing, bag.seconds(thing, 0), byFeeling[thing]);
            due.is("15 by light " + thing, bag.seconds(thing, 1), 3 + 2 * (6 - thing));
            due.is("15 tipped out " + thing, bag.seconds(thing, 2), 23);
        }
        due.is("15 way 3", bag.seconds(0, 3), Due.BEYOND);
        due.is("15 way -1", bag.seconds(0, -1), Due.BEYOND);
        due.is("15 thing 7", bag.seconds(7, 0), Due.BEYOND);
        due.is("15 thing -1", bag.seconds(-1, 0), Due.BEYOND);
        bag.zip(6);
        bag.leave(5);
        due.is("15 OUT", bag.seconds(5, 0), Due.STATE);
        due.is("15 BEYOND ahead of STATE", bag.seconds(5, 3), Due.BEYOND);
        for (int way = 0; way < 3; way++) {
            due.is("15 in THE POCKET", bag.seconds(6, way), 4);
        }
        due.is("15 the top by feeling", bag.seconds(4, 0), 2);
        due.is("15 the top by light", bag.seconds(4, 1), 3);
        due.is("15 five tipped out", bag.seconds(4, 2), 19);
        Due.text(bag, 0, "10*d+k");
        due.is("15 by a TEXT", bag.seconds(3, 0), 4 + 10 + 3);
        Due.text(bag, 0, "0-f");
        due.is("15 each held below", bag.seconds(0, 0), 0);
        Due.text(bag, 0, "500");
        due.is("15 each held above", bag.seconds(0, 0), 495);
        due.is("15 SECONDS stay", bag.count(3), 0);
    }

    private static void best() {
        BagBottom bag = Due.seven();
        due.is("16 way for the top", bag.best(6, 0), 1);
        due.is("16 its TIME", bag.best(6, 1), 3);
        due.is("16 what 2", bag.best(0, 2), Due.BEYOND);
        due.is("16 what -1", bag.best(0, -1), Due.BEYOND);
        due.is("16 thing 7", bag.best(7, 0), Due.BEYOND);
        due.is("16 thing -1", bag.best(-1, 0), Due.BEYOND);
        bag.leave(1);
        due.is("16 OUT", bag.best(1, 0), Due.STATE);
        due.is("16 BEYOND ahead of STATE", bag.best(1, 2), Due.BEYOND);
        bag.zip(0);
        due.is("16 in THE POCKET", bag.best(0, 0), 0);
        due.is("16 TIME there", bag.best(0, 1), 4);

        BagBottom equal = new BagBottom();
        equal.thing(0, 0, 3);
        due.is("16 feeling as quick as light", equal.best(0, 0), 0);
        due.is("16 3 by both", equal.best(0, 1), 3);
        equal.become(0, 64);
        due.is("16 light is quicker", equal.best(0, 0), 1);

        BagBottom nine = Due.plain(0, 0, 0, 0, 0, 0, 0, 0, 0);
        due.is("16 light is 19 for the lowest of nine", nine.best(0, 1), 19);
        due.is("16 never tipped out", nine.best(0, 0), 1);
        Due.text(nine, 0, "0");
        due.is("16 by feeling, at no cost", nine.best(0, 0), 0);
    }

    private static void takes() {
        BagBottom bag = Due.plain(0, 0, 0, 0);
        due.order("17 at first", bag, "3210");
        due.is("17 by feeling", bag.takes(1, 0), 6);
        due.order("17 on top", bag, "1320");
        due.is("17 by light", bag.takes(2, 1), 7);
        due.order("17 on top of those", bag, "2130");
        due.is("17 tipped out", bag.takes(3, 2), 17);
        due.order("17 turned over, then on top", bag, "3012");
        due.is("17 the top, tipped out", bag.takes(3, 2), 17);
        due.order("17 the others turned over", bag, "3210");
        due.is("17 SECONDS", bag.count(3), 6 + 7 + 17 + 17);
        bag.zip(0);
        due.is("17 in THE POCKET", bag.takes(0, 2), 4);
        due.order("17 nothing is turned over", bag, "321");
        due.is("17 it stays", bag.count(4), 0);
        due.is("17 4 more", bag.count(3), 51);
        due.is("17 STEPS stay", bag.count(2), 0);
        bag.leave(1);
        due.is("17 OUT", bag.takes(1, 0), Due.STATE);
        due.is("17 way 3", bag.takes(1, 3), Due.BEYOND);
        due.is("17 way -1", bag.takes(0, -1), Due.BEYOND);
        due.is("17 thing 4", bag.takes(4, 0), Due.BEYOND);
        due.is("17 thing -1", bag.takes(-1, 0), Due.BEYOND);
        due.is("17 none of these", bag.count(3), 51);
    }

    private static void secondsAreHeld() {
        BagBottom bag = Due.plain(0, 0, 0, 0, 0, 0, 0, 0, 0);
        Due.text(bag, 0, "99");
        for (int i = 1; i <= 112; i++) {
            due.is("17 the lowest of nine", bag.takes((i - 1) % 9, 0), 891);
            due.is("17 SECONDS", bag.count(3), 891 * i);
        }
        due.is("17 near their most", bag.count(3), 99792);
        due.is("17 more than they hold", bag.takes(4, 0), 891);
        due.is("17 held at 99999", bag.count(3), 99999);
    }

    private static void walks() {
        BagBottom bag = Due.plain(1, 2, 3);
        due.is("18 a STEP", bag.walks(1), 1);
        due.order("18 the heaviest goes down all the way", bag, "102");
        due.is("18 another", bag.walks(1), 2);
        due.order("18 the next one", bag, "012");
        due.is("18 settled", bag.walks(3), 5);
        due.order("18 settled", bag, "012");
        due.is("18 n 0", bag.walks(0), Due.BEYOND);
        due.is("18 n 101", bag.walks(101), Due.BEYOND);
        due.is("18 n -1", bag.walks(-1), Due.BEYOND);
        BagBottom same = Due.plain(5, 5, 5);
        same.walks(100);
        due.order("18 the equal stay", same, "210");
        for (int i = 1; i < 99; i++) {
            same.walks(100);
        }
        due.is("18 9900", same.count(2), 9900);
        due.is("18 10000", same.walks(100), Due.STATE);
        due.is("18 9999", same.walks(99), 9999);
        due.is("18 10000 by one", same.walks(1), Due.STATE);
        due.is("18 BEYOND ahead of STATE", same.walks(101), Due.BEYOND);
        due.is("18 they stay", same.count(2), 9999);

        BagBottom ring = new BagBottom();
        ring.thing(0, 10, 1);
        ring.thing(47, 10, 1);
        due.order("18 RING on top", ring, "10");
        ring.walks(1);
        due.order("18 down at even STEPS", ring, "01");
        ring.walks(1);
        due.order("18 up at odd STEPS", ring, "10");
        BagBottom ticket = new BagBottom();
        ticket.thing(0, 5, 1);
        ticket.thing(50, 8, 1);
        String[] orders = {"10", "10", "01", "10"};
        for (int steps = 1; steps <= 4; steps++) {
            ticket.walks(1);
            due.order("18 TICKET after STEPS " + steps, ticket, orders[steps - 1]);
        }
    }

    private static void loose() {
        BagBottom bag = new BagBottom();
        due.is("19 n 0", bag.loose(0), Due.BEYOND);
        due.is("19 n 21", bag.loose(21), Due.BEYOND);
        due.is("19 n -1", bag.loose(-1), Due.BEYOND);
        due.is("19 without THINGS", bag.loose(1), 0);
        int z = 1 * 1103515245 + 12345;
        due.is("19 one draw", bag.count(8), z);
        due.is("19 STEPS", bag.count(2), (z >>> 8) % 3 + 1);

        BagBottom two = Due.plain(0, 0);
        two.seed(-5);
        int thing = -5 * 1103515245 + 12345;
        int steps = thing * 1103515245 + 12345;
        int taken = (thing >>> 8) % 2;
        int time = two.best(taken, 1);
        due.is("19 one is TAKEN by its BEST WAY", two.loose(1), time);
        due.is("19 it lies on top", two.at(0), taken);
        due.is("19 two draws", two.count(8), steps);
        due.is("19 STEPS of the second", two.count(2), (steps >>> 8) % 3 + 1);

        BagBottom out = Due.plain(0, 0);
        out.leave(0);
        out.leave(1);
        out.seed(-5);
        due.is("19 what is OUT isn't TAKEN", out.loose(1), 0);
        due.is("19 two draws all the same", out.count(8), steps);

        BagBottom late = Due.plain(1, 2);
        for (int i = 0; i < 99; i++) {
            late.walks(100);
        }
        late.walks(40);
        due.is("19 9940 and 60", late.loose(20), Due.STATE);
        due.is("19 nothing drawn", late.count(8), 1);
        due.is("19 BEYOND ahead of STATE", late.loose(21), Due.BEYOND);
        due.is("19 9940 and 57", late.loose(19) >= 0 ? 1 : 0, 1);

        BagBottom full = Due.plain(1, 2);
        for (int i = 0; i < 99; i++) {
            full.walks(100);
        }
        full.walks(39);
        due.is("19 9939 and 60", full.loose(20) >= 0 ? 1 : 0, 1);

        BagBottom one = Due.plain(0);
        due.is("19 one THING", one.loose(1), 1);
        due.is("19 two draws", one.count(8), z * 1103515245 + 12345);
    }

    private static void seed() {
        BagBottom bag = new BagBottom();
        due.is("20 at first", bag.seed(Integer.MIN_VALUE), 1);
        due.is("20 what it was", bag.seed(Due.BEYOND), Integer.MIN_VALUE);
        due.is("20 what looks like an ERROR", bag.seed(0), Due.BEYOND);
        due.is("20 and is none", bag.told(1), 0);
        due.is("20 now", bag.count(8), 0);
    }
}
