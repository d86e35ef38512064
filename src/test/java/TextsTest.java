/** Promises 11 to 14: THE TAPE, TEXTS, what they give. */
public final class TextsTest {
    private static final Due due = new Due("TextsTest");

    public static void main(String[] args) {
        feed();
        text();
        faults();
        untell();
        law();
        held();
        signs();
        oneOrZero();
        eachByte();
        open();
        bytesOfAWord();
        due.end();
    }

    private static void feed() {
        BagBottom bag = new BagBottom();
        due.is("11 n 0", bag.feed(0, 0), Due.BEYOND);
        due.is("11 n 9", bag.feed(0, 9), Due.BEYOND);
        due.is("11 n -1", bag.feed(0, -1), Due.BEYOND);
        due.is("11 one", bag.feed('7', 1), 1);
        due.is("11 three more", bag.feed('0' | '+' << 8 | '1' << 16 | 'x' << 24, 3), 4);
        due.is("11 count(5)", bag.count(5), 4);
        bag.text(0);
        due.is("11 lowest first", bag.law(0, 0, 0, 0), 71);
        for (int i = 1; i <= 7; i++) {
            due.is("11 eights", bag.feed(-1L, 8), 8 * i);
        }
        due.is("11 five are too many", bag.feed(0, 5), Due.FULL);
        due.is("11 none of them came", bag.count(5), 56);
        due.is("11 BEYOND ahead of FULL", bag.feed(0, 9), Due.BEYOND);
        due.is("11 four fill it", bag.feed(0, 4), 60);
        due.is("11 one more", bag.feed(0, 1), Due.FULL);
        due.is("11 high bytes are a FAULT", bag.text(0), -10);
    }

    private static void text() {
        BagBottom bag = new BagBottom();
        due.is("12 empty", bag.text(0), -10);
        Due.feed(bag, "f");
        due.is("12 use 2", bag.text(2), Due.BEYOND);
        due.is("12 use -1", bag.text(-1), Due.BEYOND);
        due.is("12 THE TAPE stays", bag.count(5), 1);
        due.is("12 a TEXT", bag.text(0), 1);
        due.is("12 THE TAPE is empty", bag.count(5), 0);
        due.is("12 it gives", bag.law(0, 7, 50, 60), 7);
        due.is("12 with a FAULT", Due.text(bag, 0, "d+"), -12);
        due.is("12 THE TAPE is empty, too", bag.count(5), 0);
        due.is("12 the one ahead stays", bag.law(0, 7, 50, 60), 7);
        due.is("12 in place of it", Due.text(bag, 0, "d"), 1);
        due.is("12 the new one gives", bag.law(0, 7, 50, 60), 50);
        due.is("12 the other USE is as it was", bag.law(1, 1, 2, 3), 3);
        due.is("12 a FAULT is no ERROR", bag.told(1) + bag.told(2) + bag.told(3), 2);
        String sixty = "((((f+d+k))))+1234*5/6%7-8|9&1<2&3=4&5>6|!!!!!0+f+d+k+10-100";
        due.is("12 sixty bytes", sixty.length(), 60);
        due.is("12 as long as may be", Due.text(bag, 0, sixty), 1);
    }

    private static void faults() {
        String[] zero = {
            "", "+", ")", "*", "|", "<", "n", "m", " ", "F", "-1", "\u00e9"
        };
        for (String text : zero) {
            isFault(0, text, 0);
        }
        isFault(1, "f", 0);
        isFault(1, "d", 0);
        isFault(0, "f+n", 2);
        isFault(0, "12345", 4);
        isFault(0, "f1", 1);
        isFault(0, "1f", 1);
        isFault(0, "ff", 1);
        isFault(0, "f d", 1);
        isFault(0, "f!", 1);
        isFault(0, "f(d)", 1);
        isFault(0, "f)", 1);
        isFault(0, "()", 1);
        isFault(0, "(f", 2);
        isFault(0, "(f+", 3);
        isFault(0, "f<d<k", 3);
        isFault(0, "f<d=k", 3);
        isFault(0, "f<<d", 2);
        isFault(0, "f==d", 2);
        isFault(0, "(f<d<k)", 4);
        isFault(0, "f+*d", 2);
        isFault(0, "f+-d", 2);
        isFault(0, "f||d", 2);
        isFault(0, "(f]", 2);
        isFault(0, "!", 1);
        isFault(0, "!f!", 2);
        isFault(0, "((((((f))))))", 5);
        isFault(0, "!!!!!!f", 5);
        isFault(0, "(!(!(!f", 5);
        isFault(0, "!!!!!", 5);
        isFault(0, "(((((1234", 9);
        isFault(0, "(((((12345", 9);
        String[] right = {
            "0", "0000", "9999", "f", "!!!!!f", "(((((f)))))", "(!(!(f)))", "!(f)+!(d)*!!k", "(f<d)<(d<k)",
            "f<d&d<k|k=f", "f+d-k*1/2%3"
        };
        for (String text : right) {
            due.is("12 " + text, Due.text(new BagBottom(), 0, text), 1);
        }
        due.is("12 n+k*m", Due.text(new BagBottom(), 1, "n+k*m"), 1);
        isFault(0, "1+1+1+1+1+1+1+1+1+1+1+1+1+1+1+1+1+1+1+1+1+1+1+1+1+1+1+1+1+1+", 60);
    }

    private static void isFault(int use, String text, int place) {
        due.is("12 FAULT of '" + text + "'", Due.text(new BagBottom(), use, text), -10 - place);
    }

    private static void untell() {
        BagBottom bag = new BagBottom();
        Due.text(bag, 1, "5");
        due.is("13 no TEXT", bag.untell(0), 0);
        due.is("13 a TEXT", bag.untell(1), 1);
        due.is("13 no more", bag.untell(1), 0);
        due.is("13 as without", bag.law(1, 1, 2, 3), 3);
        Due.text(bag, 0, "f");
        Due.text(bag, 1, "n");
        Due.feed(bag, "123");
        due.is("13 one of two", bag.untell(0), 1);
        due.is("13 THE TAPE stays", bag.count(5), 3);
        due.is("13 the other TEXT stays", bag.law(1, 9, 2, 3), 9);
        due.is("13 use 2", bag.untell(2), Due.BEYOND);
        due.is("13 use -1", bag.untell(-1), Due.BEYOND);
    }

    private static void law() {
        BagBottom bag = new BagBottom();
        due.is("14 FELT without a TEXT", bag.law(0, 30, 4, 100), 34);
        due.is("14 held above", bag.law(0, 90, 40, 0), 99);
        due.is("14 held below", bag.law(0, 4, -30, 0), 0);
        due.is("14 it wraps", bag.law(0, Integer.MAX_VALUE, 1, 0), 0);
        due.is("14 USED without a TEXT", bag.law(1, 50, 60, 7), 7);
        due.is("14 use 2", bag.law(2, 0, 0, 0), Due.BEYOND);
        due.is("14 use -1", bag.law(-1, 0, 0, 0), Due.BEYOND);
        Due.text(bag, 0, "f*100+d*10+k");
        due.is("14 names of FELT", bag.law(0, 0, 2, 3), 23);
        due.is("14 held above with a TEXT", bag.law(0, 1, 0, 0), 99);
        due.is("14 held below with a TEXT", bag.law(0, -1, 0, 0), 0);
        Due.text(bag, 1, "n*100+k*10+m");
        due.is("14 names of USED", bag.law(1, 0, 4, 5), 45);
        due.is("14 n ahead", bag.law(1, 1, -5, 0), 50);
    }

    private static void held() {
        int[][] held = {{-1000000, 0}, {-2, 0}, {-1, 0}, {0, 0}, {1, 1}, {98, 98}, {99, 99}, {100, 99}, {1000000, 99}};
        for (int[] h : held) {
            BagBottom bag = new BagBottom();
            due.is("14 FELT of " + h[0] + " without a TEXT", bag.law(0, h[0], 0, 0), h[1]);
            due.is("14 USED of " + h[0] + " without a TEXT", bag.law(1, 0, 0, h[0]), h[1]);
            Due.text(bag, 0, "k");
            Due.text(bag, 1, "n");
            due.is("14 FELT of " + h[0], bag.law(0, 0, 0, h[0]), h[1]);
            due.is("14 USED of " + h[0], bag.law(1, h[0], 0, 0), h[1]);
        }
    }

    private static void signs() {
        int least = Integer.MIN_VALUE;
        gives("f|d", 0, 0, 0);
        gives("f|d", 0, -3, 1);
        gives("f|d", 5, 6, 1);
        gives("f&d", 5, 6, 1);
        gives("f&d", 5, 0, 0);
        gives("f<d", 1, 2, 1);
        gives("f<d", 2, 2, 0);
        gives("f=d", 2, 2, 1);
        gives("f=d", 2, 3, 0);
        gives("f>d", 3, 2, 1);
        gives("f>d", 2, 2, 0);
        gives("!f", 0, 0, 1);
        gives("!f", -7, 0, 0);
        gives("!!f", 7, 0, 1);
        gives("f/d", 17, 5, 3);
        gives("9-f/d", -7, 2, 12);
        gives("9+f%d", -7, 2, 8);
        gives("f/d", 17, 0, 0);
        gives("f%d", 17, 0, 0);
        gives("f%d", 17, 5, 2);
        gives("f/d=f", least, -1, 1);
        gives("f%d", least, -1, 0);
        gives("f*f=1", Integer.MAX_VALUE, 0, 1);
        gives("f+1<0", Integer.MAX_VALUE, 0, 1);
        gives("f-d-1", 9, 3, 5);
        gives("f/d/2", 40, 5, 4);
        gives("f-d*2", 9, 3, 3);
        gives("(f-d)*2", 9, 3, 12);
        gives("f+d*2%5", 9, 4, 12);
        gives("1|0&0", 0, 0, 1);
        gives("(1|0)&0", 0, 0, 0);
        gives("1+1=2&3>2", 0, 0, 1);
        gives("!f+d", 0, 4, 5);
        gives("!(f+d)", 0, 4, 0);
        gives("0042", 0, 0, 42);
        gives("9999/101", 0, 0, 99);
    }

    private static void gives(String text, int f, int d, int want) {
        BagBottom bag = new BagBottom();
        due.is("14 reads " + text, Due.text(bag, 0, text), 1);
        due.is("14 " + text + " of " + f + ", " + d, bag.law(0, f, d, 0), want);
    }

    /** What is told by true and false is 1 or 0 and no other number, whichever numbers are compared. */
    private static void oneOrZero() {
        int[] values = {Integer.MIN_VALUE, -2, -1, 0, 1, 2, Integer.MAX_VALUE};
        for (int f : values) {
            gives("5+!f", f, 0, f == 0 ? 6 : 5);
            for (int d : values) {
                gives("5+(f|d)", f, d, f == 0 && d == 0 ? 5 : 6);
                gives("5+(f&d)", f, d, f == 0 || d == 0 ? 5 : 6);
                gives("5+(f<d)", f, d, f < d ? 6 : 5);
                gives("5+(f=d)", f, d, f == d ? 6 : 5);
                gives("5+(f>d)", f, d, f > d ? 6 : 5);
            }
            gives("5+f/0", f, 0, 5);
            gives("5+f%0", f, 0, 5);
            gives("5+f/d", f, 0, 5);
            gives("5+f%d", f, 0, 5);
        }
        gives("5+f/2", -7, 0, 2);
        gives("5+f/(0-2)", -7, 0, 8);
        gives("5+f%2", -7, 0, 4);
        gives("5+f%(0-2)", -7, 0, 4);
        gives("5+f%(0-2)", 7, 0, 6);
    }

    /** Behind what is read already each byte either goes on to a TEXT, or has the FAULT at its place. */
    private static void eachByte() {
        String signs = "|&<=>+-*/%";
        String digits = "0123456789";
        goOn("", digits + "fdk", "!(");
        goOn("f", "", signs);
        goOn("1", digits, signs);
        goOn("123", digits, signs);
        goOn("1234", "", signs);
        goOn("f+", digits + "fdk", "!(");
        goOn("f|", digits + "fdk", "!(");
        goOn("f<", digits + "fdk", "!(");
        goOn("!", digits + "fdk", "!(");
        goOn("(", "", digits + "fdk!(");
        goOn("(f", ")", signs);
        goOn("(1", ")", signs + digits);
        goOn("(f)", "", signs);
        goOn("f<d", "", "|&+-*/%");
        goOn("f=1", digits, "|&+-*/%");
        goOn("(f<d", ")", "|&+-*/%");
        goOn("(f<d)", "", signs);
        goOn("f<d+k", "", "|&+-*/%");
        goOn("f<d&k", "", signs);
        goOn("f<d|k", "", signs);
        goOn("!!!!!", digits + "fdk", "");
        goOn("(((((", "", digits + "fdk");
        goOn("!!!!", digits + "fdk", "!(");
        BagBottom used = new BagBottom();
        due.is("12 f is no NAME of USED", Due.text(used, 1, "m+f"), -12);
        due.is("12 d neither", Due.text(used, 1, "n*d"), -12);
        due.is("12 k is one of both", Due.text(used, 1, "k"), 1);
    }

    /** These bytes end a TEXT, those go on to one that ends too early, all others are none. */
    private static void goOn(String ahead, String ending, String going) {
        for (char c = 0; c < 256; c++) {
            BagBottom bag = new BagBottom();
            int got = Due.text(bag, 0, ahead + c);
            int want = -10 - ahead.length();
            if (ending.indexOf(c) >= 0) {
                want = 1;
            } else if (going.indexOf(c) >= 0) {
                want--;
            }
            due.is("12 '" + ahead + "' and byte " + (int) c, got, want);
        }
    }

    /** Each row of five of ! and ( is open at once at most; a sixth has the FAULT. */
    private static void open() {
        for (int row = 0; row < 64; row++) {
            StringBuilder ahead = new StringBuilder();
            StringBuilder behind = new StringBuilder();
            for (int i = 0; i < 6; i++) {
                if (i == 5) {
                    String five = ahead + "f" + behind;
                    due.is("12 " + five, Due.text(new BagBottom(), 0, five), 1);
                }
                boolean opens = (row >> i & 1) == 1;
                ahead.append(opens ? '(' : '!');
                behind.append(opens ? ")" : "");
            }
            String six = ahead + "f" + behind;
            due.is("12 " + six, Due.text(new BagBottom(), 0, six), -15);
        }
        String[] closed = {
            "!f+!!!!!d", "(f)+(((((d)))))", "!(f)*!!!!!(0)", "((((!f+!d))))", "(!f+((((d)))))", "!(!f&!(!!f|(((d)))))"
        };
        int[] want = {1, 1, -20, 1, 1, -18};
        for (int i = 0; i < closed.length; i++) {
            due.is("12 " + closed[i], Due.text(new BagBottom(), 0, closed[i]), want[i]);
        }
    }

    /** The lowest byte first; those above the n lowest don't come. */
    private static void bytesOfAWord() {
        long word = 0x7c2b3938372b3635L;
        String[] sums = {"5", "56", "56+", "56+7", "56+78", "56+789", "56+789+", "56+789+|"};
        int[] want = {5, 56, -13, 63, 99, 99, -17, -17};
        for (int n = 1; n <= 8; n++) {
            BagBottom bag = new BagBottom();
            due.is("11 " + sums[n - 1], bag.feed(word, n), n);
            int answer = bag.text(0);
            due.is("11 read: " + sums[n - 1], want[n - 1] < 0 ? answer : bag.law(0, 0, 0, 0), want[n - 1]);
        }
        BagBottom bag = new BagBottom();
        due.is("11 eight times 255", bag.feed(-1L, 8), 8);
        due.is("11 none of them is read", bag.text(0), -10);
        due.is("11 the highest byte of a word below 0", bag.feed(0xe631313131313131L, 8), 8);
        due.is("11 is no digit", bag.text(0), -14);
        bag.feed(Long.MIN_VALUE, 7);
        due.is("11 seven times 0", bag.text(1), -10);
    }
}
