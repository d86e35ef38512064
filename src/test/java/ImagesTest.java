/** Promises 34 to 39: images, and what is told. */
public final class ImagesTest {
    private static final Due due = new Due("ImagesTest");

    public static void main(String[] args) {
        image();
        restore();
        whatStays();
        tell();
        check();
        count();
        told();
        due.end();
    }

    private static void image() {
        BagBottom bag = Due.plain(1, 2);
        due.is("34 the first", bag.image(), 1);
        due.is("34 the second", bag.image(), 2);
        bag.restore();
        due.is("34 restore() leaves how often", bag.image(), 3);
        bag.weigh(0, 50);
        due.is("34 in place of it", bag.image(), 4);
        bag.weigh(0, 60);
        bag.restore();
        due.is("34 the latest", bag.thingIs(0, 2), 50);
    }

    private static void restore() {
        BagBottom bag = Due.seven();
        due.is("35 none", bag.restore(), Due.NONE);
        Due.text(bag, 0, "f+7");
        Due.feed(bag, "n");
        bag.walks(5);
        bag.takes(0, 1);
        bag.zip(3);
        bag.leave(2);
        bag.tell(9);
        bag.seed(77);
        String order = Due.order(bag);
        int seconds = bag.count(3);
        bag.image();

        bag.become(1, 60);
        bag.weigh(1, 98);
        bag.thing(1, 2, 3);
        bag.untell(0);
        bag.text(1);
        Due.text(bag, 1, "n");
        bag.walks(9);
        bag.takes(0, 2);
        bag.zip(4);
        bag.stow(2);
        bag.tell(8);
        bag.loose(3);

        for (int time = 0; time < 2; time++) {
            due.is("35 STEPS", bag.restore(), 5);
            due.is("35 THINGS", bag.count(0), 7);
            due.order("35", bag, order);
            due.is("35 KIND", bag.thingIs(1, 0), 1);
            due.is("35 m", bag.thingIs(1, 1), 3);
            due.is("35 WEIGHT", bag.thingIs(1, 2), 30);
            due.is("35 SIZE", bag.thingIs(1, 3), 5);
            due.is("35 count(2)", bag.count(2), 5);
            due.is("35 SECONDS", bag.count(3), seconds);
            due.is("35 THE POCKET", bag.count(4), 3);
            due.is("35 OUT", bag.thingIs(2, 4), -2);
            due.is("35 THE TAPE", bag.count(5), 1);
            due.is("35 what waits", bag.count(6), 1);
            due.is("35 z", bag.count(8), 77);
            due.is("35 TEXT of FELT", bag.law(0, 1, 50, 0), 8);
            due.is("35 no TEXT of USED", bag.untell(1), 0);
            bag.walks(50);
            bag.untell(0);
            bag.check();
        }
        bag.restore();
        due.is("35 the byte of THE TAPE", bag.text(1), 1);
        due.is("35 reads", bag.law(1, 6, 0, 0), 6);
        bag.tell(8);
        due.is("35 the number that waits", bag.check(), 1);
        BagBottom late = new BagBottom();
        late.image();
        late.thing(7, 7, 7);
        late.restore();
        due.is("35 no THINGS", late.thingIs(0, 0), Due.BEYOND);
        due.is("35 one anew", late.thing(8, 8, 8), 0);
        late.image();
        late.restore();
        late.restore();
        due.is("35 SIZE of one anew", late.thingIs(0, 3), 8);
        BagBottom one = Due.plain(5);
        one.image();
        BagBottom other = new BagBottom();
        due.is("35 each object has an IMAGE of its own", other.restore(), Due.NONE);
        other.thing(1, 2, 3);
        other.image();
        other.thing(4, 5, 6);
        other.thing(7, 8, 9);
        other.restore();
        due.is("35 a second one anew", other.thing(60, 50, 4), 1);
        int[] want = {6, 0, 50, 4, 0, 50, 0};
        for (int what = 0; what < want.length; what++) {
            due.is("35 nothing of the one ahead is left, " + what, other.thingIs(1, what), want[what]);
        }
    }

    private static void whatStays() {
        BagBottom bag = Due.plain(1, 2);
        bag.voice(0, 0, 0);
        bag.image();
        bag.voice(0, 2, 0);
        Due.sheet(bag, 0, 8, 1, 0);
        bag.at(5);
        bag.restore();
        due.is("35 THE TRACE stays", bag.count(7), 3);
        due.is("35 SHEETS stay", bag.judge(0), 2);
        due.is("35 told() stays", bag.told(1), 1);
    }

    private static void tell() {
        BagBottom bag = new BagBottom();
        for (int i = 1; i <= 24; i++) {
            due.is("36 tell " + i, bag.tell(Integer.MIN_VALUE + i), i);
        }
        due.is("36 a 25th", bag.tell(0), Due.FULL);
        due.is("36 24 wait", bag.count(6), 24);
        bag.check();
        due.is("36 none wait", bag.tell(0), 1);
    }

    private static void check() {
        BagBottom bag = Due.plain(0, 0, 0);
        int[][] told = {{}, {2}, {2, 1, 0}, {1}, {2, 0}, {2, 1, 1}, {2, 1, 0, 0}, {2, 1, 0, -1}, {-1, 1}};
        int[] want = {0, 0, 0, 1, 2, 3, 4, 4, 1};
        for (int i = 0; i < told.length; i++) {
            for (int v : told[i]) {
                bag.tell(v);
            }
            due.is("37 check " + i, bag.check(), want[i]);
            due.is("37 none wait", bag.count(6), 0);
        }
        BagBottom none = new BagBottom();
        due.is("37 nothing of nothing", none.check(), 0);
        none.tell(-1);
        due.is("37 where nothing lies", none.check(), 1);
    }

    private static void count() {
        BagBottom bag = Due.plain(0, 0, 0);
        bag.zip(1);
        bag.leave(0);
        bag.walks(4);
        bag.takes(2, 1);
        Due.feed(bag, "12345");
        bag.tell(1);
        bag.tell(2);
        bag.voice(2, 1, 0);
        bag.seed(-9);
        int[] want = {3, 1, 4, 3, 1, 5, 2, 2, -9};
        for (int what = 0; what < want.length; what++) {
            due.is("38 count(" + what + ")", bag.count(what), want[what]);
        }
        due.is("38 count(9)", bag.count(9), Due.BEYOND);
        due.is("38 count(-1)", bag.count(-1), Due.BEYOND);
        bag.seed(Due.BEYOND);
        due.is("38 z that looks like an ERROR", bag.count(8), Due.BEYOND);
        due.is("38 and is none", bag.told(1), 2);
    }

    private static void told() {
        BagBottom bag = Due.plain(0, 0, 0);
        due.is("39 k 0", bag.told(0), Due.BEYOND);
        due.is("39 k 7", bag.told(7), Due.BEYOND);
        due.is("39 k -1", bag.told(-1), Due.BEYOND);
        due.is("39 counted, too", bag.told(1), 3);
        bag.restore();
        bag.body(0);
        bag.stow(0);
        bag.as(0, 3);
        bag.voice(0, 3, 0);
        for (int i = 0; i < 25; i++) {
            bag.tell(i);
        }
        int[] want = {3, 2, 1, 1, 1, 1};
        for (int k = 1; k <= 6; k++) {
            due.is("39 told(" + k + ")", bag.told(k), want[k - 1]);
        }
        due.is("39 what is told of is none", bag.told(1), 3);
    }
}
