import java.util.ArrayList;
import java.util.List;
import java.util.TreeSet;

/**
 * The document told once more, slowly and in another way than the program tells it:
 * rows are lists, TEXTS are read anew each time, and what is sought is sought among all.
 */
final class Model {
    private static final int[] ABOVE = {-1, 0, 0, 0, 1, 2, 0};

    private record Item(int kind, int m, int weight, int size) {
    }

    private static final class Parted extends Exception {
        private static final long serialVersionUID = 1L;
    }

    private static final class Fault extends Exception {
        private static final long serialVersionUID = 1L;
    }

    /** What an IMAGE keeps; Items never change, so that their list is copied alone. */
    private static final class World {
        List<Item> items = new ArrayList<>();
        List<Integer> order = new ArrayList<>();
        List<Integer> waiting = new ArrayList<>();
        int pocket = -1;
        int steps;
        int seconds;
        int z = 1;
        String tape = "";
        String[] texts = new String[2];

        World copy() {
            World other = new World();
            other.items = new ArrayList<>(items);
            other.order = new ArrayList<>(order);
            other.waiting = new ArrayList<>(waiting);
            other.pocket = pocket;
            other.steps = steps;
            other.seconds = seconds;
            other.z = z;
            other.tape = tape;
            other.texts = texts.clone();
            return other;
        }
    }

    private World w = new World();
    private World image;
    private int images;
    private final int[][] sheets = new int[4][];
    private final int[] bits = new int[4];
    private List<Integer> trace = new ArrayList<>();
    private final int[] told = new int[7];

    private int error(int error) {
        told[Due.LOW - error]++;
        return error;
    }

    private boolean within(int v, int least, int most) {
        return least <= v && v <= most;
    }

    private boolean known(int thing) {
        return within(thing, 0, w.items.size() - 1);
    }

    private boolean isOut(int thing) {
        return !w.order.contains(thing) && w.pocket != thing;
    }

    int thing(int km, int weight, int size) {
        if (!within(km, 0, 69) || !within(weight, 0, 99) || !within(size, 1, 9)) {
            return error(Due.BEYOND);
        }
        if (w.items.size() == 9) {
            return error(Due.FULL);
        }
        w.items.add(new Item(km / 10, km % 10, weight, size));
        w.order.add(0, w.items.size() - 1);
        return w.items.size() - 1;
    }

    private int where(int thing) {
        return isOut(thing) ? -2 : w.order.indexOf(thing);
    }

    int thingIs(int thing, int what) {
        if (!known(thing) || !within(what, 0, 6)) {
            return error(Due.BEYOND);
        }
        Item i = w.items.get(thing);
        return new int[] {i.kind, i.m, i.weight, i.size, where(thing), sinks(i, i.kind, w.steps), feels(i, i.kind)}[what];
    }

    private int sinks(Item i, int kind, int steps) {
        return switch (kind) {
            case 0, 6 -> i.weight;
            case 1 -> sinks(i, 0, steps) + i.m;
            case 2 -> sinks(i, 0, steps) / 2;
            case 3 -> sinks(i, 0, steps) + 9 - i.size;
            case 4 -> steps % 2 == 0 ? sinks(i, 1, steps) : 0;
            default -> sinks(i, 2, steps) + steps % 3;
        };
    }

    private int feels(Item i, int kind) {
        return switch (kind) {
            case 0, 3 -> i.size;
            case 1 -> feels(i, 0) / 2;
            case 2 -> feels(i, 0) + i.m;
            case 4 -> Math.max(0, feels(i, 1) - 1);
            case 5 -> feels(i, 2) * 2;
            default -> i.m;
        };
    }

    int become(int thing, int km) {
        if (!known(thing) || !within(km, 0, 69)) {
            return error(Due.BEYOND);
        }
        Item i = w.items.get(thing);
        w.items.set(thing, new Item(km / 10, km % 10, i.weight, i.size));
        return i.kind;
    }

    int as(int thing, int kind) {
        if (!known(thing) || !within(kind, 0, 6)) {
            return error(Due.BEYOND);
        }
        Item i = w.items.get(thing);
        for (int k = i.kind; k >= 0; k = ABOVE[k]) {
            if (k == kind) {
                return i.m;
            }
        }
        return error(Due.KIND);
    }

    int weigh(int thing, int v) {
        if (!known(thing) || !within(v, 0, 99)) {
            return error(Due.BEYOND);
        }
        Item i = w.items.get(thing);
        w.items.set(thing, new Item(i.kind, i.m, v, i.size));
        return i.weight;
    }

    int at(int place) {
        return within(place, 0, w.order.size() - 1) ? w.order.get(place) : error(Due.BEYOND);
    }

    int leave(int thing) {
        if (!known(thing)) {
            return error(Due.BEYOND);
        }
        if (isOut(thing)) {
            return error(Due.STATE);
        }
        if (w.pocket == thing) {
            w.pocket = -1;
        }
        w.order.remove((Integer) thing);
        return w.order.size();
    }

    int stow(int thing) {
        if (!known(thing)) {
            return error(Due.BEYOND);
        }
        if (!isOut(thing)) {
            return error(Due.STATE);
        }
        w.order.add(0, thing);
        return w.order.size();
    }

    int zip(int thing) {
        if (thing != -1 && !known(thing)) {
            return error(Due.BEYOND);
        }
        if (thing != -1 && !w.order.contains(thing)) {
            return error(Due.STATE);
        }
        int was = w.pocket;
        w.order.remove((Integer) thing);
        if (was != -1) {
            w.order.add(0, was);
        }
        w.pocket = thing;
        return was;
    }

    int feed(long word, int n) {
        if (!within(n, 1, 8)) {
            return error(Due.BEYOND);
        }
        if (w.tape.length() + n > 60) {
            return error(Due.FULL);
        }
        for (int i = 0; i < n; i++) {
            w.tape += (char) (word >> 8 * i & 255);
        }
        return w.tape.length();
    }

    /** Reads and works out a TEXT in one go. */
    private static final class Reading {
        private final String text;
        private final String names;
        private final int[] values;
        private int i;
        private int open;

        Reading(String text, int use, int... values) {
            this.text = text;
            this.names = use == 0 ? "fdk" : "nkm";
            this.values = values;
        }

        int whole() throws Fault {
            int v = t();
            if (i < text.length()) {
                throw new Fault();
            }
            return v;
        }

        private boolean next(String signs) {
            return i < text.length() && signs.indexOf(text.charAt(i)) >= 0;
        }

        private int t() throws Fault {
            int v = a();
            while (next("|")) {
                i++;
                int r = a();
                v = v != 0 | r != 0 ? 1 : 0;
            }
            return v;
        }

        private int a() throws Fault {
            int v = b();
            while (next("&")) {
                i++;
                int r = b();
                v = v != 0 & r != 0 ? 1 : 0;
            }
            return v;
        }

        private int b() throws Fault {
            int v = s();
            if (!next("<=>")) {
                return v;
            }
            char sign = text.charAt(i++);
            int compared = Integer.compare(v, s());
            return compared == "<=>".indexOf(sign) - 1 ? 1 : 0;
        }

        private int s() throws Fault {
            int v = p();
            while (next("+-")) {
                v = text.charAt(i++) == '+' ? v + p() : v - p();
            }
            return v;
        }

        private int p() throws Fault {
            int v = q();
            while (next("*/%")) {
                char sign = text.charAt(i++);
                int r = q();
                v = sign == '*' ? v * r : r == 0 ? 0 : sign == '/' ? v / r : v % r;
            }
            return v;
        }

        private int q() throws Fault {
            if (next("0123456789")) {
                int from = i;
                while (i < from + 4 && next("0123456789")) {
                    i++;
                }
                return Integer.parseInt(text.substring(from, i));
            }
            if (next(names)) {
                return values[names.indexOf(text.charAt(i++))];
            }
            if (open == 5 || !next("!(")) {
                throw new Fault();
            }
            open++;
            int v;
            if (text.charAt(i++) == '!') {
                v = q() == 0 ? 1 : 0;
            } else {
                v = t();
                if (!next(")")) {
                    throw new Fault();
                }
                i++;
            }
            open--;
            return v;
        }
    }

    int text(int use) {
        if (!within(use, 0, 1)) {
            return error(Due.BEYOND);
        }
        String text = w.tape;
        w.tape = "";
        Reading reading = new Reading(text, use, 0, 0, 0);
        try {
            reading.whole();
        } catch (Fault fault) {
            return -10 - reading.i;
        }
        w.texts[use] = text;
        return 1;
    }

    int untell(int use) {
        if (!within(use, 0, 1)) {
            return error(Due.BEYOND);
        }
        int was = w.texts[use] == null ? 0 : 1;
        w.texts[use] = null;
        return was;
    }

    int law(int use, int a, int b, int c) {
        return within(use, 0, 1) ? gives(use, a, b, c) : error(Due.BEYOND);
    }

    private int gives(int use, int a, int b, int c) {
        String text = w.texts[use] == null ? use == 0 ? "f+d" : "m" : w.texts[use];
        try {
            return Math.max(0, Math.min(99, new Reading(text, use, a, b, c).whole()));
        } catch (Fault fault) {
            throw new IllegalStateException(text);
        }
    }

    private int byFeeling(List<Integer> order, int thing) {
        int time = 0;
        for (int place = 0; place <= order.indexOf(thing); place++) {
            Item i = w.items.get(order.get(place));
            time += gives(0, feels(i, i.kind), place, i.kind);
        }
        return time;
    }

    private int time(int thing, int way) {
        if (thing == w.pocket) {
            return 4;
        }
        return way == 0 ? byFeeling(w.order, thing) : way == 1 ? 3 + 2 * where(thing) : 9 + 2 * w.order.size();
    }

    private int bestWay(int thing) {
        int a = time(thing, 0);
        int b = time(thing, 1);
        int c = time(thing, 2);
        return a <= b && a <= c ? 0 : b <= c ? 1 : 2;
    }

    int seconds(int thing, int how) {
        if (!known(thing) || !within(how, 0, 2)) {
            return error(Due.BEYOND);
        }
        return isOut(thing) ? error(Due.STATE) : time(thing, how);
    }

    int best(int thing, int what) {
        if (!known(thing) || !within(what, 0, 1)) {
            return error(Due.BEYOND);
        }
        if (isOut(thing)) {
            return error(Due.STATE);
        }
        return what == 0 ? bestWay(thing) : time(thing, bestWay(thing));
    }

    int takes(int thing, int how) {
        if (!known(thing) || !within(how, 0, 2)) {
            return error(Due.BEYOND);
        }
        return isOut(thing) ? error(Due.STATE) : take(thing, how);
    }

    private int take(int thing, int how) {
        int time = time(thing, how);
        w.seconds = Math.min(99999, w.seconds + time);
        if (w.order.contains(thing)) {
            if (how == 2) {
                java.util.Collections.reverse(w.order);
            }
            w.order.remove((Integer) thing);
            w.order.add(0, thing);
        }
        return time;
    }

    private List<Integer> stepped(List<Integer> order, int steps) {
        List<Integer> next = new ArrayList<>(order);
        for (int p = 0; p + 1 < next.size(); p++) {
            Item upper = w.items.get(next.get(p));
            Item lower = w.items.get(next.get(p + 1));
            if (sinks(upper, upper.kind, steps) > sinks(lower, lower.kind, steps)) {
                java.util.Collections.swap(next, p, p + 1);
            }
        }
        return next;
    }

    private List<Integer> later(List<Integer> order, int n) {
        List<Integer> row = order;
        for (int i = 0; i < n; i++) {
            row = stepped(row, w.steps + i);
        }
        return row;
    }

    private void walk(int n) {
        w.order = new ArrayList<>(later(w.order, n));
        w.steps += n;
    }

    int walks(int n) {
        if (!within(n, 1, 100)) {
            return error(Due.BEYOND);
        }
        if (w.steps + n > 9999) {
            return error(Due.STATE);
        }
        walk(n);
        return w.steps;
    }

    private int draw() {
        w.z = w.z * 1103515245 + 12345;
        return w.z >>> 8;
    }

    int loose(int n) {
        if (!within(n, 1, 20)) {
            return error(Due.BEYOND);
        }
        if (w.steps + 3 * n > 9999) {
            return error(Due.STATE);
        }
        for (int i = 0; i < n; i++) {
            if (!w.items.isEmpty()) {
                int thing = draw() % w.items.size();
                if (!isOut(thing)) {
                    take(thing, bestWay(thing));
                }
            }
            walk(1 + draw() % 3);
        }
        return w.seconds;
    }

    int seed(int v) {
        int was = w.z;
        w.z = v;
        return was;
    }

    int then(int thing, int n) {
        if (!known(thing) || !within(n, 0, 100)) {
            return error(Due.BEYOND);
        }
        return isOut(thing) ? -2 : later(w.order, n).indexOf(thing);
    }

    int settles() {
        List<Integer> row = w.order;
        for (int n = 0; n <= 99; n++) {
            List<Integer> next = stepped(row, w.steps + n);
            if (next.equals(row)) {
                return n;
            }
            row = next;
        }
        return error(Due.NONE);
    }

    private void rows(List<Integer> begun, TreeSet<Integer> left, List<List<Integer>> all) {
        if (left.isEmpty()) {
            all.add(begun);
        }
        for (int thing : left) {
            List<Integer> longer = new ArrayList<>(begun);
            longer.add(thing);
            TreeSet<Integer> fewer = new TreeSet<>(left);
            fewer.remove(thing);
            rows(longer, fewer, all);
        }
    }

    int pack(int n, int what) {
        if (!within(n, 0, 20) || !within(what, -1, 5)) {
            return error(Due.BEYOND);
        }
        if (w.order.size() > 6) {
            return error(Due.STATE);
        }
        if (what >= w.order.size()) {
            return error(Due.NONE);
        }
        List<List<Integer>> all = new ArrayList<>();
        rows(new ArrayList<>(), new TreeSet<>(w.order), all);
        List<Integer> best = null;
        int least = 0;
        for (List<Integer> row : all) {
            List<Integer> then = later(row, n);
            int sum = 0;
            for (int thing : then) {
                sum += used(thing) * byFeeling(then, thing);
            }
            if (best == null || sum < least) {
                best = row;
                least = sum;
            }
        }
        return what == -1 ? least : best.get(what);
    }

    private int used(int thing) {
        Item i = w.items.get(thing);
        return gives(1, thing, i.kind, i.m);
    }

    int out(int thing, int s, int what) {
        if (!known(thing) || !within(s, 0, 999) || !within(what, 0, 1)) {
            return error(Due.BEYOND);
        }
        if (!w.order.contains(thing)) {
            return error(Due.STATE);
        }
        for (int many = 0; many < 10; many++) {
            for (int set = 0; set < 1024; set++) {
                List<Integer> left = new ArrayList<>(w.order);
                int gone = 0;
                for (int other = 0; other < 10; other++) {
                    if ((set >> other & 1) == 1) {
                        gone += other != thing && left.remove((Integer) other) ? 1 : 100;
                    }
                }
                if (gone == many && byFeeling(left, thing) <= s) {
                    return what == 0 ? many : set;
                }
            }
        }
        return error(Due.NONE);
    }

    int odds(int s, int part) {
        if (!within(s, 0, 999) || !within(part, 0, 1)) {
            return error(Due.BEYOND);
        }
        int above = 0;
        int below = 0;
        for (int thing = 0; thing < w.items.size(); thing++) {
            if (!isOut(thing)) {
                below += used(thing);
                above += time(thing, bestWay(thing)) <= s ? used(thing) : 0;
            }
        }
        if (below == 0) {
            return error(Due.STATE);
        }
        for (int d = below; d > 1; d--) {
            if (above % d == 0 && below % d == 0) {
                above /= d;
                below /= d;
            }
        }
        return part == 0 ? above : below;
    }

    private boolean sheetIs(int sheet) {
        return within(sheet, 0, 3);
    }

    int fits(int sheet) {
        if (!sheetIs(sheet)) {
            return error(Due.BEYOND);
        }
        if (sheets[sheet] == null) {
            return error(Due.NONE);
        }
        List<Integer> want = new ArrayList<>();
        for (int v : sheets[sheet]) {
            want.add(v);
        }
        for (int n = 0; n <= 99; n++) {
            if (later(w.order, n).equals(want)) {
                return n;
            }
        }
        return error(Due.NONE);
    }

    int voice(int thing, int voice, int x) {
        if (!known(thing) || !within(voice, 0, 3)) {
            return error(Due.BEYOND);
        }
        trace = new ArrayList<>();
        try {
            Kind kind = kindOf(w.items.get(thing).kind, thing, w.items.get(thing).m);
            return voice == 0 ? kind.rattles(x) : voice == 1 ? kind.rustles(x) : voice == 2 ? kind.rings(x) : kind.parts(x);
        } catch (Parted parted) {
            return error(Due.PARTED);
        }
    }

    private Kind kindOf(int kind, int k, int m) {
        Kind made = switch (kind) {
            case 0 -> new Kind();
            case 1 -> new Keys();
            case 2 -> new Paper();
            case 3 -> new Pen();
            case 4 -> new Ring();
            case 5 -> new Ticket();
            default -> new Phone();
        };
        made.k = k;
        made.m = m;
        return made;
    }

    private void begins(int body) {
        if (trace.size() < 30) {
            trace.add(body);
        }
    }

    private class Kind {
        int k;
        int m;

        int rattles(int x) {
            begins(10);
            return x + k;
        }

        int rustles(int x) {
            begins(11);
            return rattles(x) * 2;
        }

        int rings(int x) {
            begins(12);
            return rustles(x) - m;
        }

        int parts(int x) throws Parted {
            begins(13);
            if (m == k) {
                throw new Parted();
            }
            return x / (m - k);
        }
    }

    private class Keys extends Kind {
        @Override
        int rattles(int x) {
            begins(20);
            return super.rattles(x) - 4;
        }

        @Override
        int parts(int x) throws Parted {
            begins(21);
            return super.parts(x) + rustles(1);
        }
    }

    private class Paper extends Kind {
        @Override
        int rustles(int x) {
            begins(30);
            return 0 - super.rustles(x);
        }
    }

    private class Pen extends Kind {
        @Override
        int rings(int x) {
            begins(40);
            return super.rings(x / 2);
        }
    }

    private final class Ring extends Keys {
        @Override
        int rattles(int x) {
            begins(50);
            return super.rattles(x) * 3;
        }

        @Override
        int rings(int x) {
            begins(51);
            return super.rings(x) ^ k;
        }
    }

    private final class Ticket extends Paper {
        @Override
        int rustles(int x) {
            begins(60);
            return super.rustles(x + 1);
        }
    }

    private final class Phone extends Kind {
        @Override
        int rattles(int x) {
            begins(70);
            return 9;
        }

        @Override
        int rustles(int x) {
            begins(71);
            return super.rustles(x) + m;
        }
    }

    int body(int i) {
        return within(i, 0, trace.size() - 1) ? trace.get(i) : error(Due.NONE);
    }

    int sheet(int sheet, int b, int n) {
        if (!sheetIs(sheet) || b != 0 && b != 8 && b != 16 && b != 32) {
            return error(Due.BEYOND);
        }
        if (b == 0) {
            sheets[sheet] = null;
            return 1;
        }
        if (n < 0) {
            return error(Due.STATE);
        }
        if (n > 24) {
            return error(Due.BEYOND);
        }
        sheets[sheet] = new int[n];
        bits[sheet] = b;
        return 1;
    }

    int put(int sheet, int i, int v) {
        if (!sheetIs(sheet)) {
            return error(Due.BEYOND);
        }
        if (sheets[sheet] == null) {
            return error(Due.NONE);
        }
        if (!within(i, 0, sheets[sheet].length - 1)) {
            return error(Due.BEYOND);
        }
        sheets[sheet][i] = bits[sheet] == 8 ? v & 255 : bits[sheet] == 16 ? v & 65535 : v;
        return 1;
    }

    int move(int sheet, int i, int other, int j, int n) {
        if (!sheetIs(sheet) || !sheetIs(other)) {
            return error(Due.BEYOND);
        }
        if (sheets[sheet] == null || sheets[other] == null) {
            return error(Due.NONE);
        }
        if (bits[sheet] != bits[other]) {
            return error(Due.KIND);
        }
        if (n < 0 || i < 0 || j < 0 || (long) i + n > sheets[sheet].length || (long) j + n > sheets[other].length) {
            return error(Due.BEYOND);
        }
        int[] were = sheets[sheet].clone();
        for (int a = 0; a < n; a++) {
            sheets[other][j + a] = were[i + a];
        }
        return n;
    }

    int weights(int sheet) {
        if (!sheetIs(sheet)) {
            return error(Due.BEYOND);
        }
        if (sheets[sheet] == null) {
            return error(Due.NONE);
        }
        for (int i = 0; i < sheets[sheet].length; i++) {
            if (!known(i) || !within(sheets[sheet][i], 0, 99)) {
                return i;
            }
            weigh(i, sheets[sheet][i]);
        }
        return sheets[sheet].length;
    }

    int judge(int sheet) {
        if (!sheetIs(sheet)) {
            return error(Due.BEYOND);
        }
        if (sheets[sheet] == null) {
            return error(Due.NONE);
        }
        for (int i = 0; i < sheets[sheet].length; i++) {
            if (i >= w.order.size() || w.order.get(i) != sheets[sheet][i]) {
                return i;
            }
        }
        return sheets[sheet].length;
    }

    int image() {
        image = w.copy();
        return ++images;
    }

    int restore() {
        if (image == null) {
            return error(Due.NONE);
        }
        w = image.copy();
        return w.steps;
    }

    int tell(int v) {
        if (w.waiting.size() == 24) {
            return error(Due.FULL);
        }
        w.waiting.add(v);
        return w.waiting.size();
    }

    int check() {
        List<Integer> told = w.waiting;
        w.waiting = new ArrayList<>();
        for (int i = 0; i < told.size(); i++) {
            if (i >= w.order.size() || !w.order.get(i).equals(told.get(i))) {
                return 1 + i;
            }
        }
        return 0;
    }

    int count(int what) {
        if (!within(what, 0, 8)) {
            return error(Due.BEYOND);
        }
        return new int[] {w.items.size(), w.order.size(), w.steps, w.seconds, w.pocket, w.tape.length(),
            w.waiting.size(), trace.size(), w.z}[what];
    }

    int told(int k) {
        return within(k, 1, 6) ? told[k] : error(Due.BEYOND);
    }
}
