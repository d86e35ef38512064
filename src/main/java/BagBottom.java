/** At the bottom of the bag: what lies above what, and how long it takes to have it. */
public final class BagBottom {
    private static final int LOW = -1000000000;
    private static final int BEYOND = LOW - 1;
    private static final int NONE = LOW - 2;
    private static final int STATE = LOW - 3;
    private static final int FULL = LOW - 4;
    private static final int KIND = LOW - 5;
    private static final int PARTED = LOW - 6;
    private static final int ERRORS = 6;

    // LANGUAGE.md lists the functions of Integer alone, not its constants.
    private static final int INT_MOST = 2147483647;
    private static final int NOTHING = -1;
    private static final int IN_POCKET = -1;
    private static final int IS_OUT = -2;

    private static final int THINGS_MOST = 9;
    private static final int STEPS_MOST = 9999;
    private static final int SECONDS_MOST = 99999;
    private static final int WEIGHT_MOST = 99;
    private static final int TAPE_MOST = 60;
    private static final int WAITING_MOST = 24;
    private static final int SHEETS = 4;
    private static final int SHEET_MOST = 24;
    private static final int TRACE_MOST = 30;
    private static final int THOUGHT_STEPS_MOST = 99;
    private static final int PACK_MOST = 6;
    private static final int PACK_ROWS = 720;

    private static final int KINDS = 7;
    private static final int KEYS = 1;
    private static final int PAPER = 2;
    private static final int PEN = 3;
    private static final int RING = 4;
    private static final int TICKET = 5;
    private static final int PHONE = 6;
    private static final int[] KIND_ABOVE = {-1, 0, 0, 0, 1, 2, 0};

    private static final int WAYS = 3;
    private static final int BY_FEELING = 0;
    private static final int BY_LIGHT = 1;
    private static final int TIPPED_OUT = 2;
    private static final int POCKET_TIME = 4;

    private static final int USES = 2;
    private static final int FELT = 0;
    private static final int USED = 1;

    // SINKS hang on STEPS by their rests by 2 and by 3 alone, so six rows of them tell all.
    private static final int SINK_ROWS = 6;

    private final Bag bag = new Bag();
    private final Bag kept = new Bag();
    private int images;
    private final Sheet[] sheets = new Sheet[SHEETS];
    private final Voices voices = new Voices();
    private final Thought thought = new Thought();
    private final int[] errors = new int[ERRORS + 1];

    public BagBottom() {
        for (int i = 0; i < SHEETS; i++) {
            sheets[i] = new Sheet();
        }
    }

    // ---- things

    public int thing(int km, int weight, int size) {
        if (!isKindAndM(km) || !isWeight(weight) || size < 1 || size > 9) {
            return failed(BEYOND);
        }
        if (bag.known >= THINGS_MOST) {
            return failed(FULL);
        }
        return bag.addThing(km, weight, size);
    }

    public int thingIs(int thing, int what) {
        if (!bag.knows(thing)) {
            return failed(BEYOND);
        }
        Thing one = bag.things[thing];
        switch (what) {
            case 0: return one.kind;
            case 1: return one.m;
            case 2: return one.weight;
            case 3: return one.size;
            case 4: return bag.whereIs(thing);
            case 5: return one.sinks(bag.steps);
            case 6: return one.feels();
            default: return failed(BEYOND);
        }
    }

    public int become(int thing, int km) {
        if (!bag.knows(thing) || !isKindAndM(km)) {
            return failed(BEYOND);
        }
        Thing one = bag.things[thing];
        int before = one.kind;
        one.kind = km / 10;
        one.m = km % 10;
        return before;
    }

    public int as(int thing, int kind) {
        if (!bag.knows(thing) || kind < 0 || kind >= KINDS) {
            return failed(BEYOND);
        }
        if (!bag.things[thing].isOf(kind)) {
            return failed(KIND);
        }
        return bag.things[thing].m;
    }

    public int weigh(int thing, int v) {
        if (!bag.knows(thing) || !isWeight(v)) {
            return failed(BEYOND);
        }
        int before = bag.things[thing].weight;
        bag.things[thing].weight = v;
        return before;
    }

    public int at(int place) {
        if (!bag.order.has(place)) {
            return failed(BEYOND);
        }
        return bag.order.numbers[place];
    }

    public int leave(int thing) {
        if (!bag.knows(thing)) {
            return failed(BEYOND);
        }
        if (bag.whereIs(thing) == IS_OUT) {
            return failed(STATE);
        }
        bag.bringOut(thing);
        return bag.order.length;
    }

    public int stow(int thing) {
        if (!bag.knows(thing)) {
            return failed(BEYOND);
        }
        if (bag.whereIs(thing) != IS_OUT) {
            return failed(STATE);
        }
        bag.order.addOnTop(thing);
        return bag.order.length;
    }

    public int zip(int thing) {
        if (thing != NOTHING && !bag.knows(thing)) {
            return failed(BEYOND);
        }
        if (thing != NOTHING && bag.whereIs(thing) < 0) {
            return failed(STATE);
        }
        return bag.changePocket(thing);
    }

    // ---- texts

    public int feed(long word, int n) {
        if (n < 1 || n > 8) {
            return failed(BEYOND);
        }
        if (bag.tape.length + n > TAPE_MOST) {
            return failed(FULL);
        }
        for (int i = 0; i < n; i++) {
            bag.tape.add((int) ((word >>> (8 * i)) & 255));
        }
        return bag.tape.length;
    }

    public int text(int use) {
        if (!isUse(use)) {
            return failed(BEYOND);
        }
        int fault = bag.texts[use].read(bag.tape, use == FELT ? "fdk" : "nkm");
        bag.tape.length = 0;
        return fault < 0 ? 1 : -10 - fault;
    }

    public int untell(int use) {
        if (!isUse(use)) {
            return failed(BEYOND);
        }
        int before = bag.texts[use].isThere() ? 1 : 0;
        bag.texts[use].codes.length = 0;
        return before;
    }

    public int law(int use, int a, int b, int c) {
        if (!isUse(use)) {
            return failed(BEYOND);
        }
        return bag.gives(use, a, b, c);
    }

    // ---- how long it takes

    public int seconds(int thing, int how) {
        if (!bag.knows(thing) || !isWay(how)) {
            return failed(BEYOND);
        }
        if (bag.whereIs(thing) == IS_OUT) {
            return failed(STATE);
        }
        return bag.time(thing, how);
    }

    public int best(int thing, int what) {
        if (!bag.knows(thing) || what < 0 || what > 1) {
            return failed(BEYOND);
        }
        if (bag.whereIs(thing) == IS_OUT) {
            return failed(STATE);
        }
        int way = bag.bestWay(thing);
        return what == 0 ? way : bag.time(thing, way);
    }

    public int takes(int thing, int how) {
        if (!bag.knows(thing) || !isWay(how)) {
            return failed(BEYOND);
        }
        if (bag.whereIs(thing) == IS_OUT) {
            return failed(STATE);
        }
        return bag.take(thing, how);
    }

    public int walks(int n) {
        if (n < 1 || n > 100) {
            return failed(BEYOND);
        }
        if (bag.steps + n > STEPS_MOST) {
            return failed(STATE);
        }
        bag.walk(n);
        return bag.steps;
    }

    public int loose(int n) {
        if (n < 1 || n > 20) {
            return failed(BEYOND);
        }
        if (bag.steps + 3 * n > STEPS_MOST) {
            return failed(STATE);
        }
        for (int i = 0; i < n; i++) {
            bag.goByDraws();
        }
        return bag.seconds;
    }

    public int seed(int v) {
        int before = bag.z;
        bag.z = v;
        return before;
    }

    // ---- what would be

    public int then(int thing, int n) {
        if (!bag.knows(thing) || n < 0 || n > 100) {
            return failed(BEYOND);
        }
        return thought.whereThen(bag, thing, n);
    }

    public int settles() {
        int n = thought.stepsToSettle(bag);
        return n == NOTHING ? failed(NONE) : n;
    }

    public int pack(int n, int what) {
        if (n < 0 || n > 20 || what < -1 || what >= PACK_MOST) {
            return failed(BEYOND);
        }
        if (bag.order.length > PACK_MOST) {
            return failed(STATE);
        }
        if (what >= bag.order.length) {
            return failed(NONE);
        }
        int comesTo = thought.packFor(bag, n);
        return what == -1 ? comesTo : thought.packed.numbers[what];
    }

    public int out(int thing, int s, int what) {
        if (!bag.knows(thing) || !isTimeAsked(s) || what < 0 || what > 1) {
            return failed(BEYOND);
        }
        if (bag.whereIs(thing) < 0) {
            return failed(STATE);
        }
        int set = thought.setLeftOut(bag, thing, s);
        if (set == NOTHING) {
            return failed(NONE);
        }
        return what == 0 ? Integer.bitCount(set) : set;
    }

    public int odds(int s, int part) {
        if (!isTimeAsked(s) || part < 0 || part > 1) {
            return failed(BEYOND);
        }
        int all = thought.usedWithin(bag, INT_MOST);
        if (all == 0) {
            return failed(STATE);
        }
        int quick = thought.usedWithin(bag, s);
        int shared = commonDivisor(all, quick);
        if (shared == 0) {
            return 0;
        }
        return part == 0 ? quick / shared : all / shared;
    }

    public int fits(int sheet) {
        if (!isSheet(sheet)) {
            return failed(BEYOND);
        }
        if (sheets[sheet].isMissing()) {
            return failed(NONE);
        }
        int n = thought.stepsToBe(bag, sheets[sheet].row);
        return n == NOTHING ? failed(NONE) : n;
    }

    // ---- voices, sheets, images, what is told

    public int voice(int thing, int voice, int x) {
        if (!bag.knows(thing) || voice < 0 || voice >= Voices.VOICES) {
            return failed(BEYOND);
        }
        int answer = voices.answer(thing, bag.things[thing], voice, x);
        return voices.parted ? failed(PARTED) : answer;
    }

    public int body(int i) {
        if (!voices.trace.has(i)) {
            return failed(NONE);
        }
        return voices.trace.numbers[i];
    }

    public int sheet(int sheet, int bits, int n) {
        if (!isSheet(sheet) || (bits != 0 && bits != 8 && bits != 16 && bits != 32)) {
            return failed(BEYOND);
        }
        if (bits != 0 && n < 0) {
            return failed(STATE);
        }
        if (bits != 0 && n > SHEET_MOST) {
            return failed(BEYOND);
        }
        sheets[sheet].begin(bits, bits == 0 ? 0 : n);
        return 1;
    }

    public int put(int sheet, int i, int v) {
        if (!isSheet(sheet)) {
            return failed(BEYOND);
        }
        if (sheets[sheet].isMissing()) {
            return failed(NONE);
        }
        if (!sheets[sheet].row.has(i)) {
            return failed(BEYOND);
        }
        sheets[sheet].write(i, v);
        return 1;
    }

    public int move(int sheet, int i, int other, int j, int n) {
        if (!isSheet(sheet) || !isSheet(other)) {
            return failed(BEYOND);
        }
        Sheet from = sheets[sheet];
        Sheet to = sheets[other];
        if (from.isMissing() || to.isMissing()) {
            return failed(NONE);
        }
        if (from.bits != to.bits) {
            return failed(KIND);
        }
        if (!from.row.hasRun(i, n) || !to.row.hasRun(j, n)) {
            return failed(BEYOND);
        }
        System.arraycopy(from.row.numbers, i, to.row.numbers, j, n);
        return n;
    }

    public int weights(int sheet) {
        if (!isSheet(sheet)) {
            return failed(BEYOND);
        }
        if (sheets[sheet].isMissing()) {
            return failed(NONE);
        }
        return bag.takeWeights(sheets[sheet].row);
    }

    public int judge(int sheet) {
        if (!isSheet(sheet)) {
            return failed(BEYOND);
        }
        if (sheets[sheet].isMissing()) {
            return failed(NONE);
        }
        return sheets[sheet].row.alikeWith(bag.order);
    }

    public int image() {
        kept.copy(bag);
        images++;
        return images;
    }

    public int restore() {
        if (images == 0) {
            return failed(NONE);
        }
        bag.copy(kept);
        return bag.steps;
    }

    public int tell(int v) {
        if (bag.waiting.length >= WAITING_MOST) {
            return failed(FULL);
        }
        bag.waiting.add(v);
        return bag.waiting.length;
    }

    public int check() {
        int right = bag.waiting.alikeWith(bag.order);
        int answer = right == bag.waiting.length ? 0 : 1 + right;
        bag.waiting.length = 0;
        return answer;
    }

    public int count(int what) {
        switch (what) {
            case 0: return bag.known;
            case 1: return bag.order.length;
            case 2: return bag.steps;
            case 3: return bag.seconds;
            case 4: return bag.pocket;
            case 5: return bag.tape.length;
            case 6: return bag.waiting.length;
            case 7: return voices.trace.length;
            case 8: return bag.z;
            default: return failed(BEYOND);
        }
    }

    public int told(int k) {
        if (k < 1 || k > ERRORS) {
            return failed(BEYOND);
        }
        return errors[k];
    }

    // ---- what several calls ask

    private int failed(int error) {
        int k = LOW - error;
        if (k >= 1 && k <= ERRORS) {
            errors[k]++;
        }
        return error;
    }

    private static boolean isKindAndM(int km) {
        return km >= 0 && km < 10 * KINDS;
    }

    private static boolean isWeight(int v) {
        return v >= 0 && v <= WEIGHT_MOST;
    }

    private static boolean isUse(int use) {
        return use >= 0 && use < USES;
    }

    private static boolean isWay(int way) {
        return way >= 0 && way < WAYS;
    }

    private static boolean isTimeAsked(int s) {
        return s >= 0 && s <= 999;
    }

    private static boolean isSheet(int sheet) {
        return sheet >= 0 && sheet < SHEETS;
    }

    /** Of two numbers that are 0 or more; 0 if both are 0. */
    private static int commonDivisor(int a, int b) {
        int larger = a;
        int smaller = b;
        // By Euclid the pair at least halves every second turn, so 64 turns are enough for ints.
        for (int turn = 0; turn < 64 && smaller != 0; turn++) {
            int rest = larger % smaller;
            larger = smaller;
            smaller = rest;
        }
        return larger;
    }

    /** A row of numbers, with room for a fixed number of them. */
    static final class Row {
        final int[] numbers;
        int length;

        Row(int most) {
            numbers = new int[Math.max(0, most)];
        }

        boolean has(int place) {
            return place >= 0 && place < length;
        }

        /** Whether n numbers stand from a place on; it takes the difference, as a sum might wrap. */
        boolean hasRun(int place, int n) {
            return place >= 0 && n >= 0 && place <= length && n <= length - place;
        }

        int placeOf(int number) {
            for (int i = 0; i < length; i++) {
                if (numbers[i] == number) {
                    return i;
                }
            }
            return NOTHING;
        }

        void add(int number) {
            if (length < numbers.length) {
                numbers[length] = number;
                length++;
            }
        }

        void addOnTop(int number) {
            if (length < numbers.length) {
                System.arraycopy(numbers, 0, numbers, 1, length);
                numbers[0] = number;
                length++;
            }
        }

        void removeAt(int place) {
            if (has(place)) {
                System.arraycopy(numbers, place + 1, numbers, place, length - place - 1);
                length--;
            }
        }

        void exchange(int place, int other) {
            if (has(place) && has(other)) {
                int number = numbers[place];
                numbers[place] = numbers[other];
                numbers[other] = number;
            }
        }

        /** The numbers from a place on, the last first. */
        void turnOverFrom(int place) {
            int low = place;
            for (int high = length - 1; low < high; high--) {
                exchange(low, high);
                low++;
            }
        }

        /** The next row of the same numbers, by numbers from the top: false if this is the last. */
        boolean goToNext() {
            int turn = length - 2;
            while (turn >= 0 && numbers[turn] >= numbers[turn + 1]) {
                turn--;
            }
            if (turn < 0) {
                return false;
            }
            int higher = length - 1;
            while (higher > turn && numbers[higher] <= numbers[turn]) {
                higher--;
            }
            exchange(turn, higher);
            turnOverFrom(turn + 1);
            return true;
        }

        /** How many numbers, from the first on, stand in the other row likewise. */
        int alikeWith(Row other) {
            int right = 0;
            while (right < length && right < other.length && numbers[right] == other.numbers[right]) {
                right++;
            }
            return right;
        }

        void copy(Row from) {
            int n = Math.min(from.length, numbers.length);
            System.arraycopy(from.numbers, 0, numbers, 0, n);
            length = n;
        }
    }

    /** One THING. */
    static final class Thing {
        int kind;
        int m;
        int weight;
        int size;

        int sinks(int steps) {
            switch (kind) {
                case KEYS: return weight + m;
                case PAPER: return weight / 2;
                case PEN: return weight + 9 - size;
                case RING: return steps % 2 == 0 ? weight + m : 0;
                case TICKET: return weight / 2 + steps % 3;
                default: return weight;
            }
        }

        int feels() {
            switch (kind) {
                case KEYS: return size / 2;
                case PAPER: return size + m;
                case RING: return Math.max(0, size / 2 - 1);
                case TICKET: return 2 * (size + m);
                case PHONE: return m;
                default: return size;
            }
        }

        /** Whether it is of a KIND, or of one under it. */
        boolean isOf(int asked) {
            int above = kind;
            for (int turn = 0; turn < KINDS && above >= 0; turn++) {
                if (above == asked) {
                    return true;
                }
                above = KIND_ABOVE[above];
            }
            return false;
        }

        void copy(Thing from) {
            kind = from.kind;
            m = from.m;
            weight = from.weight;
            size = from.size;
        }
    }

    /** The TEXT of a USE, in postfix codes: 0 and above a NUMBER, below it a NAME or an operator. */
    static final class Text {
        private static final int NAMES = 3;
        private static final int OPEN_MOST = 5;
        private static final int DIGITS_MOST = 4;
        private static final int SIGN_LEVELS = 5;
        private static final int COMPARED = 2;

        final Row codes = new Row(TAPE_MOST);
        private final Row written = new Row(TAPE_MOST);
        private final int[] stack = new int[TAPE_MOST];
        private Row bytes;
        private String names = "";
        private int next;

        boolean isThere() {
            return codes.length > 0;
        }

        /** The FAULT, the TEXT ahead being left as it is; -1 if there is none. */
        int read(Row tape, String namesOfUse) {
            bytes = tape;
            names = namesOfUse;
            next = 0;
            written.length = 0;
            if (!reads(0, 0) || next < tape.length) {
                return next;
            }
            codes.copy(written);
            return -1;
        }

        /** What stands between the signs of a level: T is level 0, P is level 4, Q is below all. */
        private boolean reads(int level, int open) {
            if (level >= SIGN_LEVELS) {
                return readsSingle(open);
            }
            if (!reads(level + 1, open)) {
                return false;
            }
            for (int turn = 0; turn < TAPE_MOST && standsIn(signsOf(level)); turn++) {
                int sign = here();
                next++;
                if (!reads(level + 1, open)) {
                    return false;
                }
                written.add(-sign);
                if (level == COMPARED) {
                    return true;
                }
            }
            return true;
        }

        private boolean readsSingle(int open) {
            if (standsIn("0123456789")) {
                readNumber();
                return true;
            }
            if (standsIn(names)) {
                written.add(-1 - names.indexOf((char) here()));
                next++;
                return true;
            }
            if (open >= OPEN_MOST || !standsIn("!(")) {
                return false;
            }
            boolean turned = here() == '!';
            next++;
            if (turned) {
                boolean right = readsSingle(open + 1);
                written.add(-'!');
                return right;
            }
            if (!reads(0, open + 1) || here() != ')') {
                return false;
            }
            next++;
            return true;
        }

        private void readNumber() {
            int number = 0;
            for (int digit = 0; digit < DIGITS_MOST && standsIn("0123456789"); digit++) {
                number = 10 * number + here() - '0';
                next++;
            }
            written.add(number);
        }

        private static String signsOf(int level) {
            switch (level) {
                case 0: return "|";
                case 1: return "&";
                case 2: return "<=>";
                case 3: return "+-";
                default: return "*/%";
            }
        }

        private int here() {
            return bytes != null && bytes.has(next) ? bytes.numbers[next] : NOTHING;
        }

        private boolean standsIn(String signs) {
            int sign = here();
            return sign >= 0 && signs.indexOf((char) sign) >= 0;
        }

        int value(int a, int b, int c) {
            int top = 0;
            for (int i = 0; i < codes.length; i++) {
                int code = codes.numbers[i];
                if (code >= -NAMES) {
                    if (top >= stack.length) {
                        return 0;
                    }
                    stack[top] = code >= 0 ? code : code == -1 ? a : code == -2 ? b : c;
                    top++;
                } else if (code == -'!') {
                    if (top < 1) {
                        return 0;
                    }
                    stack[top - 1] = stack[top - 1] == 0 ? 1 : 0;
                } else {
                    if (top < 2) {
                        return 0;
                    }
                    top--;
                    stack[top - 1] = joined(-code, stack[top - 1], stack[top]);
                }
            }
            return top > 0 ? stack[0] : 0;
        }

        private static int joined(int sign, int left, int right) {
            switch (sign) {
                case '|': return left != 0 || right != 0 ? 1 : 0;
                case '&': return left != 0 && right != 0 ? 1 : 0;
                case '<': return left < right ? 1 : 0;
                case '=': return left == right ? 1 : 0;
                case '>': return left > right ? 1 : 0;
                case '+': return left + right;
                case '-': return left - right;
                case '*': return left * right;
                case '/': return right == 0 ? 0 : left / right;
                default: return right == 0 ? 0 : left % right;
            }
        }

        void copy(Text from) {
            codes.copy(from.codes);
        }
    }

    /** All that an IMAGE keeps. */
    static final class Bag {
        final Thing[] things = new Thing[THINGS_MOST];
        int known;
        final Row order = new Row(THINGS_MOST);
        int pocket = NOTHING;
        int steps;
        int seconds;
        int z = 1;
        final Row tape = new Row(TAPE_MOST);
        final Text[] texts = new Text[USES];
        final Row waiting = new Row(WAITING_MOST);
        private final int[] sinkRows = new int[SINK_ROWS * THINGS_MOST];

        Bag() {
            for (int i = 0; i < THINGS_MOST; i++) {
                things[i] = new Thing();
            }
            for (int use = 0; use < USES; use++) {
                texts[use] = new Text();
            }
        }

        boolean knows(int number) {
            return number >= 0 && number < known;
        }

        int addThing(int km, int weight, int size) {
            int number = known;
            Thing one = things[number];
            one.kind = km / 10;
            one.m = km % 10;
            one.weight = weight;
            one.size = size;
            known++;
            order.addOnTop(number);
            return number;
        }

        /** Its place; -1 THE POCKET; -2 OUT. */
        int whereIs(int number) {
            int place = order.placeOf(number);
            if (place >= 0) {
                return place;
            }
            return pocket == number ? IN_POCKET : IS_OUT;
        }

        void bringOut(int number) {
            if (pocket == number) {
                pocket = NOTHING;
            }
            order.removeAt(order.placeOf(number));
        }

        int changePocket(int number) {
            int before = pocket;
            if (before != NOTHING) {
                order.addOnTop(before);
            }
            order.removeAt(order.placeOf(number));
            pocket = number;
            return before;
        }

        int takeWeights(Row row) {
            int taken = 0;
            while (taken < row.length && taken < known && isWeight(row.numbers[taken])) {
                things[taken].weight = row.numbers[taken];
                taken++;
            }
            return taken;
        }

        int gives(int use, int a, int b, int c) {
            Text text = texts[use];
            int value = use == FELT ? a + b : c;
            if (text.isThere()) {
                value = text.value(a, b, c);
            }
            return Math.max(0, Math.min(99, value));
        }

        int usedOf(int number) {
            return gives(USED, number, things[number].kind, things[number].m);
        }

        /** TIME for one that is IN or in THE POCKET. */
        int time(int number, int way) {
            int place = order.placeOf(number);
            if (place < 0) {
                return POCKET_TIME;
            }
            if (way == BY_LIGHT) {
                return 3 + 2 * place;
            }
            if (way == TIPPED_OUT) {
                return 9 + 2 * order.length;
            }
            int time = 0;
            for (int above = 0; above <= place; above++) {
                Thing one = things[order.numbers[above]];
                time += gives(FELT, one.feels(), above, one.kind);
            }
            return time;
        }

        int bestWay(int number) {
            int best = BY_FEELING;
            int least = time(number, BY_FEELING);
            for (int way = 1; way < WAYS; way++) {
                int time = time(number, way);
                if (time < least) {
                    least = time;
                    best = way;
                }
            }
            return best;
        }

        int take(int number, int way) {
            int time = time(number, way);
            seconds = Math.min(SECONDS_MOST, seconds + time);
            if (pocket == number) {
                return time;
            }
            if (way == TIPPED_OUT) {
                order.turnOverFrom(0);
            }
            order.removeAt(order.placeOf(number));
            order.addOnTop(number);
            return time;
        }

        void learnSinks() {
            for (int row = 0; row < SINK_ROWS; row++) {
                for (int number = 0; number < known; number++) {
                    sinkRows[row * THINGS_MOST + number] = things[number].sinks(row);
                }
            }
        }

        /** What a STEP does to a row, by the SINKS learnt: whether it changes places. */
        boolean shake(Row row, int stepsThen) {
            int sinks = stepsThen % SINK_ROWS * THINGS_MOST;
            boolean changed = false;
            for (int place = 0; place + 1 < row.length; place++) {
                if (sinkRows[sinks + row.numbers[place]] > sinkRows[sinks + row.numbers[place + 1]]) {
                    row.exchange(place, place + 1);
                    changed = true;
                }
            }
            return changed;
        }

        void walk(int n) {
            learnSinks();
            for (int i = 0; i < n; i++) {
                shake(order, steps);
                steps++;
            }
        }

        private int draw() {
            z = z * 1103515245 + 12345;
            return z >>> 8;
        }

        void goByDraws() {
            if (known > 0) {
                int number = draw() % known;
                if (whereIs(number) != IS_OUT) {
                    take(number, bestWay(number));
                }
            }
            walk(draw() % 3 + 1);
        }

        void copy(Bag from) {
            for (int i = 0; i < THINGS_MOST; i++) {
                things[i].copy(from.things[i]);
            }
            known = from.known;
            order.copy(from.order);
            pocket = from.pocket;
            steps = from.steps;
            seconds = from.seconds;
            z = from.z;
            tape.copy(from.tape);
            for (int use = 0; use < USES; use++) {
                texts[use].copy(from.texts[use]);
            }
            waiting.copy(from.waiting);
        }
    }

    /** What would be: it reads a bag and works on rows of its own. */
    static final class Thought {
        final Row packed = new Row(THINGS_MOST);
        private final Row start = new Row(THINGS_MOST);
        private final Row row = new Row(THINGS_MOST);
        private final int[] felt = new int[THINGS_MOST * THINGS_MOST];
        private final int[] used = new int[THINGS_MOST];

        int whereThen(Bag bag, int number, int n) {
            bag.learnSinks();
            row.copy(bag.order);
            for (int i = 0; i < n; i++) {
                bag.shake(row, bag.steps + i);
            }
            int place = row.placeOf(number);
            return place >= 0 ? place : bag.whereIs(number);
        }

        /** Behind how many STEPS a STEP more changes nothing; -1: not by 99. */
        int stepsToSettle(Bag bag) {
            bag.learnSinks();
            row.copy(bag.order);
            for (int n = 0; n <= THOUGHT_STEPS_MOST; n++) {
                if (!bag.shake(row, bag.steps + n)) {
                    return n;
                }
            }
            return NOTHING;
        }

        /** Behind how many STEPS THE ORDER is the one told; -1: not by 99. */
        int stepsToBe(Bag bag, Row told) {
            if (told.length != bag.order.length) {
                return NOTHING;
            }
            bag.learnSinks();
            row.copy(bag.order);
            for (int n = 0; n <= THOUGHT_STEPS_MOST; n++) {
                if (told.alikeWith(row) == row.length) {
                    return n;
                }
                bag.shake(row, bag.steps + n);
            }
            return NOTHING;
        }

        /** What the best row comes to, which is in packed then. */
        int packFor(Bag bag, int n) {
            bag.learnSinks();
            learnUses(bag);
            start.length = 0;
            for (int number = 0; number < bag.known; number++) {
                if (bag.order.placeOf(number) >= 0) {
                    start.add(number);
                }
            }
            int least = INT_MOST;
            for (int turn = 0; turn < PACK_ROWS; turn++) {
                int comesTo = costOfStart(bag, n);
                if (comesTo < least) {
                    least = comesTo;
                    packed.copy(start);
                }
                if (!start.goToNext()) {
                    break;
                }
            }
            return least;
        }

        private int costOfStart(Bag bag, int n) {
            row.copy(start);
            for (int i = 0; i < n; i++) {
                bag.shake(row, bag.steps + i);
            }
            int time = 0;
            int cost = 0;
            for (int place = 0; place < row.length; place++) {
                int number = row.numbers[place];
                time += felt[number * THINGS_MOST + place];
                cost += used[number] * time;
            }
            return cost;
        }

        /** FELT and USED are asked once for all rows, not once a row. */
        private void learnUses(Bag bag) {
            for (int number = 0; number < bag.known; number++) {
                Thing one = bag.things[number];
                used[number] = bag.usedOf(number);
                for (int above = 0; above < bag.order.length; above++) {
                    felt[number * THINGS_MOST + above] = bag.gives(FELT, one.feels(), above, one.kind);
                }
            }
        }

        /** The set of the fewest, as bits; -1: by no set. */
        int setLeftOut(Bag bag, int thing, int s) {
            learnUses(bag);
            int others = 0;
            for (int place = 0; place < bag.order.length; place++) {
                others |= 1 << bag.order.numbers[place];
            }
            others &= ~(1 << thing);
            int best = NOTHING;
            int fewest = THINGS_MOST;
            for (int set = 0; set <= others; set++) {
                int many = Integer.bitCount(set);
                if ((set & ~others) == 0 && many < fewest && timeWithout(bag.order, thing, set) <= s) {
                    best = set;
                    fewest = many;
                }
            }
            return best;
        }

        private int timeWithout(Row order, int thing, int set) {
            int above = 0;
            int time = 0;
            for (int place = 0; place < order.length; place++) {
                int number = order.numbers[place];
                if ((set >>> number & 1) == 0) {
                    time += felt[number * THINGS_MOST + above];
                    above++;
                }
                if (number == thing) {
                    return time;
                }
            }
            return time;
        }

        /** USED of those together that the BEST WAY brings within s. */
        int usedWithin(Bag bag, int s) {
            int together = 0;
            for (int number = 0; number < bag.known; number++) {
                if (bag.whereIs(number) != IS_OUT && bag.time(number, bag.bestWay(number)) <= s) {
                    together += bag.usedOf(number);
                }
            }
            return together;
        }
    }

    /** What the BODIES answer, and THE TRACE. */
    static final class Voices {
        static final int VOICES = 4;
        private static final int RATTLES = 0;
        private static final int RUSTLES = 1;
        private static final int RINGS = 2;
        private static final int PARTS = 3;
        private static final int DEEPEST = 30;
        // A line a KIND, in the order of the VOICES; 0: the KIND above has it.
        private static final int[] BODIES = {
            10, 11, 12, 13,
            20, 0, 0, 21,
            0, 30, 0, 0,
            0, 0, 40, 0,
            50, 0, 51, 0,
            0, 60, 0, 0,
            70, 71, 0, 0
        };

        final Row trace = new Row(TRACE_MOST);
        boolean parted;
        private int number;
        private int kind;
        private int m;

        /** THE TRACE is this one's even if it is PARTED: its BODIES began, up to the one that parted. */
        int answer(int thingNumber, Thing thing, int voice, int x) {
            number = thingNumber;
            kind = thing.kind;
            m = thing.m;
            parted = false;
            trace.length = 0;
            return speak(voice, kind, x, 0);
        }

        private static int bodyFrom(int voice, int from) {
            int above = from;
            for (int turn = 0; turn < KINDS && above >= 0; turn++) {
                int body = BODIES[above * VOICES + voice];
                if (body != 0) {
                    return body;
                }
                above = KIND_ABOVE[above];
            }
            return 0;
        }

        private int speak(int voice, int from, int x, int depth) {
            int body = bodyFrom(voice, from);
            if (depth > DEEPEST || parted || body == 0) {
                return 0;
            }
            trace.add(body);
            int above = KIND_ABOVE[body / 10 - 1];
            int deeper = depth + 1;
            switch (body) {
                case 10: return x + number;
                case 11: return speak(RATTLES, kind, x, deeper) * 2;
                case 12: return speak(RUSTLES, kind, x, deeper) - m;
                case 13: return partedBy(x, m - number);
                case 20: return speak(RATTLES, above, x, deeper) - 4;
                case 21: return speak(PARTS, above, x, deeper) + speak(RUSTLES, kind, 1, deeper);
                case 30: return 0 - speak(RUSTLES, above, x, deeper);
                case 40: return speak(RINGS, above, x / 2, deeper);
                case 50: return speak(RATTLES, above, x, deeper) * 3;
                case 51: return speak(RINGS, above, x, deeper) ^ number;
                case 60: return speak(RUSTLES, above, x + 1, deeper);
                case 70: return 9;
                case 71: return speak(RUSTLES, above, x, deeper) + m;
                default: return 0;
            }
        }

        private int partedBy(int x, int by) {
            if (by == 0) {
                parted = true;
                return 0;
            }
            return x / by;
        }
    }

    /** A SHEET; of 0 bits it is missing. */
    static final class Sheet {
        int bits;
        final Row row = new Row(SHEET_MOST);

        boolean isMissing() {
            return bits == 0;
        }

        void begin(int newBits, int n) {
            bits = newBits;
            row.length = 0;
            for (int i = 0; i < n; i++) {
                row.add(0);
            }
        }

        void write(int i, int v) {
            if (row.has(i)) {
                row.numbers[i] = bits == 32 ? v : v & ((1 << bits) - 1);
            }
        }
    }
}
