import java.util.Random;

/** Runs of 512 drawn calls each, answered by the program and by the model alike. */
public final class ModelTest {
    private static final int RUNS = 400;
    private static final int CALLS = 512;
    private static final int MOST_WRONG = 20;
    private static final int[] ODD = {
        Integer.MIN_VALUE, Integer.MAX_VALUE, Integer.MIN_VALUE + 1, -1000000001, -100, -2, -1, 10, 24, 25, 70, 100, 101,
        256, 9999, 65536
    };
    private static final Due due = new Due("ModelTest");

    private final Random random;
    private final BagBottom bag = new BagBottom();
    private final Model model = new Model();
    private String call;

    private ModelTest(int seed) {
        random = new Random(seed);
    }

    public static void main(String[] args) {
        for (int seed = 1; seed <= RUNS && due.wrong() < MOST_WRONG; seed++) {
            new ModelTest(seed).run(seed);
        }
        due.end();
    }

    private void run(int seed) {
        int wrong = due.wrong();
        // Each fourth run walks far, so that STEPS come near their most.
        int walks = seed % 4 == 0 ? 40 : 0;
        for (int i = 0; i < CALLS && due.wrong() == wrong; i++) {
            long[] answers = random.nextInt(100) < walks ? walks() : any();
            due.is("run " + seed + ", call " + i + ", " + call, answers[0], answers[1]);
        }
    }

    private int upTo(int most) {
        return random.nextInt(30) == 0 ? ODD[random.nextInt(ODD.length)] : random.nextInt(most + 1);
    }

    private int odd() {
        return random.nextBoolean() ? ODD[random.nextInt(ODD.length)] : random.nextInt(21) - 5;
    }

    private int number() {
        return upTo(Math.max(0, model.count(0) - 1));
    }

    /** Both are asked, so that both tell of the same ERRORS. */
    private int order(int place) {
        bag.at(place);
        return model.at(place);
    }

    private long[] walks() {
        int n = 101 - upTo(4);
        call = "walks(" + n + ")";
        return two(bag.walks(n), model.walks(n));
    }

    private static long[] two(long got, long want) {
        return new long[] {got, want};
    }

    private long[] any() {
        int kind = random.nextInt(10);
        if (kind < 4) {
            return things(random.nextInt(14));
        }
        if (kind < 5) {
            return texts(random.nextInt(6));
        }
        if (kind < 8) {
            return times(random.nextInt(13));
        }
        return sheets(random.nextInt(20));
    }

    private long[] things(int which) {
        int t = number();
        int a = upTo(9);
        switch (which) {
            case 0: case 1: {
                int km = upTo(69);
                int weight = random.nextBoolean() ? upTo(99) : upTo(12);
                int size = 1 + upTo(8);
                call = "thing(" + km + ", " + weight + ", " + size + ")";
                return two(bag.thing(km, weight, size), model.thing(km, weight, size));
            }
            case 2: case 3: case 4:
                call = "thingIs(" + t + ", " + a + ")";
                return two(bag.thingIs(t, a), model.thingIs(t, a));
            case 5: {
                int km = upTo(69);
                call = "become(" + t + ", " + km + ")";
                return two(bag.become(t, km), model.become(t, km));
            }
            case 6:
                call = "as(" + t + ", " + a + ")";
                return two(bag.as(t, a), model.as(t, a));
            case 7: {
                int v = upTo(99);
                call = "weigh(" + t + ", " + v + ")";
                return two(bag.weigh(t, v), model.weigh(t, v));
            }
            case 8: case 9: case 10:
                call = "at(" + a + ")";
                return two(bag.at(a), model.at(a));
            case 11:
                call = "leave(" + t + ")";
                return two(bag.leave(t), model.leave(t));
            case 12:
                call = "stow(" + t + ")";
                return two(bag.stow(t), model.stow(t));
            default: {
                int z = upTo(9) - 1;
                call = "zip(" + z + ")";
                return two(bag.zip(z), model.zip(z));
            }
        }
    }

    private String phrase(int use) {
        String names = use == 0 ? "fdk" : "nkm";
        StringBuilder text = new StringBuilder();
        drawPhrase(text, names, 0);
        if (random.nextInt(3) == 0 && text.length() > 0) {
            String signs = "|&<=>+-*/%!()0123456789fdknm x";
            text.setCharAt(random.nextInt(text.length()), signs.charAt(random.nextInt(signs.length())));
        }
        return text.substring(0, Math.min(60, text.length()));
    }

    private void drawPhrase(StringBuilder text, String names, int open) {
        int parts = 1 + random.nextInt(3);
        for (int part = 0; part < parts; part++) {
            if (part > 0) {
                text.append("|&<=>+-*/%+-*".charAt(random.nextInt(13)));
            }
            int what = random.nextInt(open > 5 ? 5 : 8);
            if (what < 3) {
                text.append(names.charAt(random.nextInt(3)));
            } else if (what < 5) {
                text.append(random.nextInt(random.nextInt(4) == 0 ? 10100 : 10));
            } else if (what < 6) {
                text.append("!");
                text.append(names.charAt(random.nextInt(3)));
            } else {
                text.append("(");
                drawPhrase(text, names, open + 1);
                text.append(")");
            }
        }
    }

    private long[] texts(int which) {
        int use = random.nextInt(20) == 0 ? odd() : random.nextInt(2);
        switch (which) {
            case 0: {
                long word = random.nextLong();
                int n = 1 + upTo(7);
                call = "feed(" + word + ", " + n + ")";
                return two(bag.feed(word, n), model.feed(word, n));
            }
            case 1: case 2: {
                String text = phrase(use & 1);
                for (int i = 0; i < text.length(); i++) {
                    bag.feed(text.charAt(i), 1);
                    model.feed(text.charAt(i), 1);
                }
                call = "text(" + use + ") of " + text;
                return two(bag.text(use), model.text(use));
            }
            case 3:
                call = "untell(" + use + ")";
                return two(bag.untell(use), model.untell(use));
            default: {
                int a = odd();
                int b = odd();
                int c = odd();
                call = "law(" + use + ", " + a + ", " + b + ", " + c + ")";
                return two(bag.law(use, a, b, c), model.law(use, a, b, c));
            }
        }
    }

    private long[] times(int which) {
        int t = number();
        int way = upTo(3);
        int s = random.nextBoolean() ? upTo(30) : upTo(120);
        int part = upTo(1);
        switch (which) {
            case 0: case 1:
                call = "seconds(" + t + ", " + way + ")";
                return two(bag.seconds(t, way), model.seconds(t, way));
            case 2:
                call = "best(" + t + ", " + part + ")";
                return two(bag.best(t, part), model.best(t, part));
            case 3: case 4:
                call = "takes(" + t + ", " + way + ")";
                return two(bag.takes(t, way), model.takes(t, way));
            case 5: {
                int n = random.nextBoolean() ? upTo(3) : upTo(101);
                call = "walks(" + n + ")";
                return two(bag.walks(n), model.walks(n));
            }
            case 6: {
                int n = upTo(21);
                call = "loose(" + n + ")";
                return two(bag.loose(n), model.loose(n));
            }
            case 7: {
                int v = odd();
                call = "seed(" + v + ")";
                return two(bag.seed(v), model.seed(v));
            }
            case 8: {
                int n = random.nextBoolean() ? upTo(6) : upTo(101);
                call = "then(" + t + ", " + n + ")";
                return two(bag.then(t, n), model.then(t, n));
            }
            case 9:
                call = "settles()";
                return two(bag.settles(), model.settles());
            case 10: {
                int n = random.nextInt(3) > 0 ? upTo(2) : upTo(21);
                int what = upTo(7) - 1;
                if (model.count(1) > 5 && random.nextInt(8) > 0) {
                    n = 0;
                }
                call = "pack(" + n + ", " + what + ")";
                return two(bag.pack(n, what), model.pack(n, what));
            }
            case 11:
                call = "out(" + t + ", " + s + ", " + part + ")";
                return two(bag.out(t, s, part), model.out(t, s, part));
            default:
                call = "odds(" + s + ", " + part + ")";
                return two(bag.odds(s, part), model.odds(s, part));
        }
    }

    private long[] sheets(int which) {
        int sheet = upTo(3);
        switch (which) {
            case 0: case 1: {
                int t = number();
                int voice = upTo(3);
                int x = odd();
                call = "voice(" + t + ", " + voice + ", " + x + ")";
                return two(bag.voice(t, voice, x), model.voice(t, voice, x));
            }
            case 2: case 3: {
                int i = upTo(6);
                call = "body(" + i + ")";
                return two(bag.body(i), model.body(i));
            }
            case 4: {
                int bits = random.nextInt(9) == 0 ? odd() : new int[] {0, 8, 16, 32}[random.nextInt(4)];
                int n = random.nextInt(6) == 0 ? odd() : upTo(10);
                call = "sheet(" + sheet + ", " + bits + ", " + n + ")";
                return two(bag.sheet(sheet, bits, n), model.sheet(sheet, bits, n));
            }
            case 5: case 6: {
                int i = upTo(9);
                int v = random.nextInt(4) == 0 ? odd() : upTo(9);
                call = "put(" + sheet + ", " + i + ", " + v + ")";
                return two(bag.put(sheet, i, v), model.put(sheet, i, v));
            }
            case 7: {
                int other = upTo(3);
                int i = upTo(4);
                int j = upTo(4);
                int n = upTo(4);
                call = "move(" + sheet + ", " + i + ", " + other + ", " + j + ", " + n + ")";
                return two(bag.move(sheet, i, other, j, n), model.move(sheet, i, other, j, n));
            }
            case 8:
                call = "weights(" + sheet + ")";
                return two(bag.weights(sheet), model.weights(sheet));
            case 9: case 10:
                return orderOnSheet(upTo(3));
            case 11:
                call = "image()";
                return two(bag.image(), model.image());
            case 12:
                call = "restore()";
                return two(bag.restore(), model.restore());
            case 13: {
                int v = random.nextInt(4) == 0 ? odd() : order(random.nextInt(10));
                call = "tell(" + v + ")";
                return two(bag.tell(v), model.tell(v));
            }
            case 14:
                call = "check()";
                return two(bag.check(), model.check());
            case 15: case 16: case 17: {
                int what = upTo(9);
                call = "count(" + what + ")";
                return two(bag.count(what), model.count(what));
            }
            default: {
                int k = upTo(7);
                call = "told(" + k + ")";
                return two(bag.told(k), model.told(k));
            }
        }
    }

    /** A SHEET tells THE ORDER of now or of some STEPS on; then it is judged, or asked when it fits. */
    private long[] orderOnSheet(int sheet) {
        int n = random.nextInt(4);
        int in = model.count(1);
        int bits = new int[] {8, 16, 32}[random.nextInt(3)];
        bag.sheet(sheet, bits, in);
        model.sheet(sheet, bits, in);
        for (int t = 0; t < 10; t++) {
            int place = model.then(t, n);
            bag.then(t, n);
            if (place >= 0 && random.nextInt(12) > 0) {
                bag.put(sheet, place, t);
                model.put(sheet, place, t);
            }
        }
        if (random.nextBoolean()) {
            call = "judge(" + sheet + ")";
            return two(bag.judge(sheet), model.judge(sheet));
        }
        call = "fits(" + sheet + ")";
        return two(bag.fits(sheet), model.fits(sheet));
    }
}
