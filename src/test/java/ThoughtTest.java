/** Promises 21 to 26: what would be. */
public final class ThoughtTest {
    private static final Due due = new Due("ThoughtTest");

    public static void main(String[] args) {
        then();
        thoughtGoesBeyond();
        settles();
        pack();
        packThen();
        packByUses();
        out();
        odds();
        fits();
        late();
        due.end();
    }

    private static void then() {
        BagBottom bag = Due.plain(1, 2, 3);
        int[][] want = {{2, 1, 0}, {1, 0, 2}, {0, 1, 2}, {0, 1, 2}};
        for (int n = 0; n < want.length; n++) {
            for (int thing = 0; thing < 3; thing++) {
                due.is("21 then(" + thing + ", " + n + ")", bag.then(thing, n), want[n][thing]);
            }
        }
        due.is("21 a hundred", bag.then(2, 100), 2);
        due.is("21 n 101", bag.then(2, 101), Due.BEYOND);
        due.is("21 n -1", bag.then(2, -1), Due.BEYOND);
        due.is("21 thing 3", bag.then(3, 0), Due.BEYOND);
        due.is("21 thing -1", bag.then(-1, 0), Due.BEYOND);
        due.order("21 only thought", bag, "210");
        due.is("21 STEPS stay", bag.count(2), 0);
        bag.zip(1);
        bag.leave(0);
        due.is("21 in THE POCKET", bag.then(1, 5), -1);
        due.is("21 OUT", bag.then(0, 5), -2);
    }

    private static void thoughtGoesBeyond() {
        BagBottom bag = new BagBottom();
        bag.thing(0, 10, 1);
        bag.thing(47, 10, 1);
        for (int i = 0; i < 99; i++) {
            bag.walks(100);
        }
        bag.walks(99);
        due.order("21 at 9999", bag, "01");
        due.is("21 at 10000", bag.then(1, 1), 0);
        due.is("21 at 10001", bag.then(1, 2), 1);
        due.is("21 at 10099", bag.then(1, 100), 1);
        due.is("21 STEPS are as they were", bag.count(2), 9999);
    }

    private static void settles() {
        BagBottom bag = Due.plain(1, 2, 3);
        due.is("22 behind two", bag.settles(), 2);
        due.order("22 only thought", bag, "210");
        bag.walks(1);
        due.is("22 behind one", bag.settles(), 1);
        bag.walks(1);
        due.is("22 now", bag.settles(), 0);
        due.is("22 nothing at all", new BagBottom().settles(), 0);
        due.is("22 one", Due.plain(9).settles(), 0);
        BagBottom ring = new BagBottom();
        ring.thing(0, 10, 1);
        ring.thing(47, 10, 1);
        due.is("22 never", ring.settles(), Due.NONE);
        due.is("22 told", ring.told(2), 1);
        ring.weigh(0, 0);
        ring.walks(1);
        due.is("22 a RING that is 0 as the other", ring.settles(), 0);
        BagBottom later = new BagBottom();
        later.thing(0, 10, 1);
        later.thing(47, 10, 1);
        later.walks(1);
        due.order("22 the RING is below", later, "01");
        due.is("22 it comes up first", later.settles(), Due.NONE);
        BagBottom nine = Due.plain(0, 1, 2, 3, 4, 5, 6, 7, 8);
        due.is("22 nine", nine.settles(), 8);
    }

    private static void pack() {
        BagBottom bag = new BagBottom();
        due.is("23 nothing", bag.pack(0, -1), 0);
        due.is("23 no place", bag.pack(0, 0), Due.NONE);
        bag.thing(1, 0, 4);
        bag.thing(5, 0, 2);
        bag.thing(9, 0, 3);
        // On top 1: 5 * 2, then 2: 9 * (2 + 4), then 0: 1 * (6 + 6); 2 ahead of 1: 9 * 3, 5 * 6, 1 * 12.
        due.is("23 comes to", bag.pack(0, -1), 69);
        due.is("23 the first", bag.pack(0, 0), 2);
        due.is("23 the second", bag.pack(0, 1), 1);
        due.is("23 the third", bag.pack(0, 2), 0);
        due.is("23 a fourth", bag.pack(0, 3), Due.NONE);
        due.is("23 what 5", bag.pack(0, 5), Due.NONE);
        due.is("23 what 6", bag.pack(0, 6), Due.BEYOND);
        due.is("23 what -2", bag.pack(0, -2), Due.BEYOND);
        due.is("23 n 21", bag.pack(21, 0), Due.BEYOND);
        due.is("23 n -1", bag.pack(-1, 0), Due.BEYOND);
        due.order("23 only thought", bag, "210");
        bag.weigh(2, 1);
        due.is("23 what is heavy is below then", bag.pack(20, -1), 10 + 1 * 7 + 9 * 12);
        due.is("23 the first of rows that come to the same", bag.pack(20, 0), 1);
        due.is("23 its second", bag.pack(20, 1), 0);
        bag.zip(2);
        due.is("23 without what is in THE POCKET", bag.pack(0, -1), 5 * 2 + 1 * 7);
        bag.leave(0);
        due.is("23 without what is OUT", bag.pack(0, -1), 10);
        due.is("23 one alone", bag.pack(0, 0), 1);
        due.is("23 no second", bag.pack(0, 1), Due.NONE);

        BagBottom many = Due.plain(0, 0, 0, 0, 0, 0, 0);
        due.is("23 seven", many.pack(0, -1), Due.STATE);
        due.is("23 BEYOND ahead of STATE", many.pack(0, 6), Due.BEYOND);
        due.is("23 STATE, not NONE", many.pack(0, 5), Due.STATE);
        many.leave(0);
        due.is("23 six", many.pack(0, 0), 6);
        due.is("23 its last", many.pack(0, 5), 1);
    }

    private static void packThen() {
        BagBottom bag = Due.plain(0, 1, 2);
        Due.text(bag, 1, "(n=1)*9");
        due.is("23 on top now", bag.pack(0, -1), 9);
        due.is("23 on top behind one", bag.pack(1, -1), 9);
        due.is("23 the first such row", bag.pack(1, 0) * 100 + bag.pack(1, 1) * 10 + bag.pack(1, 2), 120);
        due.is("23 in the middle behind two", bag.pack(2, -1), 27);
        Due.text(bag, 1, "(n=2)*9");
        due.is("23 the heaviest now", bag.pack(0, -1), 9);
        due.is("23 the heaviest behind one", bag.pack(1, -1), 54);
        BagBottom ring = new BagBottom();
        ring.thing(0, 10, 1);
        ring.thing(47, 10, 1);
        due.is("23 a RING falls at even STEPS", ring.pack(1, -1), 14);
        ring.walks(1);
        due.is("23 and comes up at odd ones", ring.pack(1, -1), 0);
        due.is("23 and falls again", ring.pack(2, -1), 14);
    }

    private static void packByUses() {
        BagBottom bag = Due.plain(0, 0, 0);
        Due.text(bag, 1, "1");
        due.is("23 all alike: the first by numbers", bag.pack(0, 0) * 100 + bag.pack(0, 1) * 10 + bag.pack(0, 2), 12);
        due.is("23 all alike", bag.pack(0, -1), 1 + 3 + 6);
        Due.text(bag, 1, "n=0");
        due.is("23 one is USED", bag.pack(0, -1), 1);
        due.is("23 that on top", bag.pack(0, 0), 0);
        Due.text(bag, 1, "0");
        due.is("23 none is USED", bag.pack(7, -1), 0);
        due.is("23 the first row", bag.pack(7, 2), 2);
        Due.text(bag, 1, "n=2");
        Due.text(bag, 0, "9-d*9");
        due.is("23 a TEXT of FELT", bag.pack(0, -1), 9);
        due.is("23 by it the least from the top", bag.pack(0, 0), 0);
    }

    private static void out() {
        BagBottom bag = Due.seven();
        // FEELS from the top: 6: 9, 5: 6, 4: 2, 3: 2, 2: 7, 1: 2, 0: 4.
        due.is("24 none need go", bag.out(0, 53, 0), 0);
        due.is("24 the empty set", bag.out(0, 53, 1), 0);
        due.is("24 one", bag.out(0, 52, 0), 1);
        due.is("24 the least such", bag.out(0, 52, 1), 1 << 1);
        due.is("24 the one that FEELS most", bag.out(0, 38, 1), 1 << 6);
        due.is("24 all", bag.out(0, 4, 0), 6);
        due.is("24 the set of all", bag.out(0, 4, 1), 126);
        due.is("24 by no set", bag.out(0, 3, 0), Due.NONE);
        due.is("24 s 999", bag.out(0, 999, 0), 0);
        due.is("24 s 1000", bag.out(0, 1000, 0), Due.BEYOND);
        due.is("24 s -1", bag.out(0, -1, 0), Due.BEYOND);
        due.is("24 what 2", bag.out(0, 20, 2), Due.BEYOND);
        due.is("24 what -1", bag.out(0, 20, -1), Due.BEYOND);
        due.is("24 thing 7", bag.out(7, 20, 0), Due.BEYOND);
        due.is("24 thing -1", bag.out(-1, 20, 0), Due.BEYOND);
        due.order("24 only thought", bag, "6543210");
        bag.zip(6);
        bag.leave(5);
        due.is("24 in THE POCKET", bag.out(6, 20, 0), Due.STATE);
        due.is("24 OUT", bag.out(5, 20, 0), Due.STATE);
        due.is("24 BEYOND ahead of STATE", bag.out(5, 20, 2), Due.BEYOND);
        due.is("24 what is IN alone goes", bag.out(0, 4, 1), 30);
        Due.text(bag, 0, "20-d*20");
        due.is("24 with fewer above it takes longer", bag.out(4, 19, 0), Due.NONE);
        BagBottom nine = Due.plain(0, 0, 0, 0, 0, 0, 0, 0, 0);
        due.is("24 eight others", nine.out(0, 1, 1), 510);
        nine.takes(8, 1);
        nine.takes(0, 1);
        nine.takes(7, 1);
        due.is("24 one on top of it", nine.out(0, 2, 1), 128);
        BagBottom three = Due.plain(0, 0, 0);
        three.takes(0, 1);
        due.order("24 three", three, "021");
        due.is("24 two go", three.out(1, 1, 1), 5);
        due.is("24 one goes", three.out(1, 3, 1), 1);
        due.is("24 none go for the top", three.out(0, 1, 1), 0);
        Due.text(nine, 0, "d*9");
        due.is("24 a set that leaves more out is no better", nine.out(0, 9, 0), 0);
    }

    private static void odds() {
        BagBottom bag = Due.seven();
        // USED is m: 5, 3, 4, 0, 7, 2, 9; TIME by the BEST WAY: 15, 13, 11, 9, 7, 5, 3.
        int[][] want = {
            {0, 0, 1}, {2, 0, 1}, {3, 3, 10}, {4, 3, 10}, {5, 11, 30}, {7, 3, 5}, {9, 3, 5}, {11, 11, 15}, {13, 5, 6},
            {14, 5, 6}, {15, 1, 1}, {999, 1, 1}
        };
        for (int[] w : want) {
            due.is("25 above, s " + w[0], bag.odds(w[0], 0), w[1]);
            due.is("25 below, s " + w[0], bag.odds(w[0], 1), w[2]);
        }
        due.is("25 s 1000", bag.odds(1000, 0), Due.BEYOND);
        due.is("25 s -1", bag.odds(-1, 0), Due.BEYOND);
        due.is("25 part 2", bag.odds(5, 2), Due.BEYOND);
        due.is("25 part -1", bag.odds(5, -1), Due.BEYOND);
        bag.zip(0);
        due.is("25 THE POCKET counts", bag.odds(4, 0) * 100 + bag.odds(4, 1), 7 * 100 + 15);
        bag.leave(6);
        due.is("25 OUT doesn't", bag.odds(4, 0) * 100 + bag.odds(4, 1), 103);
        Due.text(bag, 1, "n=3");
        due.is("25 USED by a TEXT", bag.odds(7, 0) * 100 + bag.odds(7, 1), 101);
        due.is("25 not within 6", bag.odds(6, 0) * 100 + bag.odds(6, 1), 1);
        Due.text(bag, 1, "n=6");
        due.is("25 USED 0 together", bag.odds(5, 0), Due.STATE);
        due.is("25 BEYOND ahead of STATE", bag.odds(5, 2), Due.BEYOND);
        due.is("25 none", new BagBottom().odds(5, 1), Due.STATE);
        Due.text(bag, 0, "0");
        bag.untell(1);
        due.is("25 by feeling at no cost", bag.odds(0, 0) * 100 + bag.odds(0, 1), 16 * 100 + 21);
    }

    private static void fits() {
        BagBottom bag = Due.plain(1, 2, 3);
        due.is("26 sheet 4", bag.fits(4), Due.BEYOND);
        due.is("26 sheet -1", bag.fits(-1), Due.BEYOND);
        due.is("26 missing", bag.fits(0), Due.NONE);
        Due.sheet(bag, 0, 8, 2, 1, 0);
        Due.sheet(bag, 1, 16, 1, 0, 2);
        Due.sheet(bag, 2, 32, 0, 1, 2);
        due.is("26 now", bag.fits(0), 0);
        due.is("26 behind one", bag.fits(1), 1);
        due.is("26 behind two", bag.fits(2), 2);
        due.order("26 only thought", bag, "210");
        Due.sheet(bag, 3, 8, 1, 2, 0);
        due.is("26 never", bag.fits(3), Due.NONE);
        Due.sheet(bag, 3, 8, 2, 1);
        due.is("26 too few", bag.fits(3), Due.NONE);
        Due.sheet(bag, 3, 8, 2, 1, 0, 0);
        due.is("26 too many", bag.fits(3), Due.NONE);
        Due.sheet(bag, 3, 8);
        due.is("26 none of three", bag.fits(3), Due.NONE);
        due.is("26 none of none", emptyFits(), 0);

        BagBottom nine = Due.plain(0, 1, 2, 3, 4, 5, 6, 7, 8);
        Due.sheet(nine, 0, 8, 0, 1, 2, 3, 4, 5, 6, 7, 8);
        due.is("26 behind eight", nine.fits(0), 8);
    }

    private static int emptyFits() {
        BagBottom bag = new BagBottom();
        bag.sheet(0, 8, 0);
        return bag.fits(0);
    }

    /** Plain THINGS (C), TICKETS (T) and RINGS (R), from the top, that SINK so much or little more, after some STEPS. */
    private static BagBottom after(int steps, String row) {
        BagBottom bag = new BagBottom();
        bag.walks(steps);
        for (int i = row.length() - 2; i >= 0; i -= 3) {
            int sinks = row.charAt(i + 1) - '0';
            switch (row.charAt(i)) {
                case 'T': bag.thing(50, 2 * sinks, 1); break;
                case 'R': bag.thing(40, sinks, 1); break;
                default: bag.thing(0, sinks, 1);
            }
        }
        return bag;
    }

    /** The latest of all that long searches have found. */
    private static void late() {
        BagBottom bag = after(1, "R2 R4 T2 C3 R3 R3 R2 R1 C0");
        due.is("22 nine are there", bag.count(0), 9);
        due.is("22 settles late", bag.settles(), 19);
        bag.walks(18);
        due.is("22 one STEP ahead of it", bag.settles(), 1);
        bag.walks(1);
        due.is("22 now", bag.settles(), 0);
        String order = Due.order(bag);
        bag.walks(1);
        due.order("22 a STEP more changes no places", bag, order);

        String row = "T2 T2 C3 C3 C3 T2 T1 T2 R3";
        BagBottom ahead = after(4, row);
        BagBottom behind = after(4, row);
        behind.walks(24);
        ahead.sheet(0, 8, 9);
        behind.sheet(0, 8, 9);
        for (int place = 0; place < 9; place++) {
            ahead.put(0, place, behind.at(place));
            behind.put(0, place, ahead.at(place));
        }
        due.is("26 fits late", ahead.fits(0), 24);
        due.is("26 never again", behind.fits(0), Due.NONE);
    }
}
