import java.util.function.Supplier;

/** Promises 1 to 12: numbers and texts. */
public final class TextsTest {
    private static final Class<IndexOutOfBoundsException> INDEX = IndexOutOfBoundsException.class;
    private static final Class<IllegalArgumentException> ARGUMENT = IllegalArgumentException.class;
    private static final Class<IllegalStateException> STATE = IllegalStateException.class;

    private TextsTest() {
    }

    private static void newObject() {
        PolyLathe x = new PolyLathe();
        int[] counts = {7, 0, 0, 0, 0};
        for (int what = 0; what < 5; what++) {
            Check.due("new count " + what, x.count(what), counts[what]);
        }
        for (int r = 0; r < 10; r++) {
            Check.due("new degree " + r, x.degree(r), -1);
            for (int k = 0; k <= 24; k++) {
                Check.due("new coefficient", x.coefficient(r, k), 0);
            }
        }
        Check.due("new errorAt", x.errorAt(), -1);
        Check.due("new clearPoints", x.clearPoints(), 0);
        Check.dueReal("new meanDegree", x.meanDegree(), 0.0);
        Check.raises(x, "new byteAt", INDEX, () -> x.byteAt(0));
        Check.raises(x, "new part", INDEX, () -> x.part(0, 0));
    }

    private static void begin() {
        PolyLathe x = new PolyLathe();
        int before = 7;
        int primes = 0;
        for (int p = -3; p <= 200; p++) {
            boolean prime = p >= 2 && p <= 97;
            for (int d = 2; d < p; d++) {
                prime = prime && p % d != 0;
            }
            if (prime) {
                Check.due("begin " + p, x.begin(p), before);
                Check.due("p then", x.count(0), p);
                before = p;
                primes++;
            } else {
                int q = p;
                PolyLathe y = new PolyLathe();
                Check.raises(y, "begin " + p, ARGUMENT, () -> y.begin(q));
            }
        }
        Check.due("primes", primes, 25);
        Check.raises(x, "begin", ARGUMENT, () -> x.begin(Integer.MIN_VALUE));
        Check.raises(x, "begin", ARGUMENT, () -> x.begin(Integer.MAX_VALUE));
        Check.due("begin the same", x.begin(97), 97);
    }

    private static void beginKeepsTexts() {
        PolyLathe x = new PolyLathe();
        Check.due("reading x+", Check.read(x, 0, "x+"), 1);
        Check.put(x, 3, "x^2-1");
        Check.due("reading x+", Check.read(x, 0, "x+"), 1);
        x.write(3);
        x.factor(3);
        x.point(3, 4);
        Check.type(x, "6*x");
        x.begin(5);
        int[] counts = {5, 3, 5, 0, 0};
        for (int what = 0; what < 5; what++) {
            Check.due("count behind begin " + what, x.count(what), counts[what]);
        }
        Check.due("degree behind begin", x.degree(3), -1);
        Check.due("errorAt behind begin", x.errorAt(), 2);
        Check.due("byteAt behind begin", x.byteAt(0), 'x');
        Check.raises(x, "part behind begin", INDEX, () -> x.part(0, 0));
        Check.due("join behind begin", x.join(3), -1);
        Check.due("read behind begin", x.read(1), 0);
        Check.dueText("the tape by the new p", Check.written(x, 1), "x");
    }

    private static void feedAndTrim() {
        PolyLathe x = new PolyLathe();
        int four = 'x' << 24 | '+' << 16 | '2' << 8 | '+';
        for (int n = 20; n <= 400; n += 20) {
            Check.due("feed", x.feed(four, four, four, four, four), n);
        }
        Check.raises(x, "feed to 420", STATE, () -> x.feed(1, 2, 3, 4, 5));
        Check.raises(x, "trim -1", ARGUMENT, () -> x.trim(-1));
        Check.raises(x, "trim 401", ARGUMENT, () -> x.trim(401));
        Check.due("trim 400", x.trim(400), 400);
        Check.due("trim 381", x.trim(381), 381);
        Check.raises(x, "feed to 401", STATE, () -> x.feed(1, 2, 3, 4, 5));
        Check.due("trim 380", x.trim(380), 380);
        Check.due("feed to 400", x.feed(0, 0, 0, 0, 0), 400);
        Check.due("trim 379", x.trim(379), 379);
        Check.due("read 379 bytes", x.read(0), 0);
        Check.dueText("95 times x+2", Check.written(x, 0), "4x+1");
        Check.due("the tape is empty", x.count(1), 0);
        Check.due("trim 0", x.trim(0), 0);
        Check.raises(x, "trim 1", ARGUMENT, () -> x.trim(1));
        x.feed(0x80818283, -1, 0, 0, 0);
        Check.due("read bytes above 127", x.read(0), 1);
        Check.due("at", x.errorAt(), 0);
    }

    private static void order() {
        PolyLathe x = new PolyLathe();
        x.begin(97);
        x.feed(('1' << 24) | ('2' << 16) | ('*' << 8) | 'x', ('^' << 24) | ('1' << 16) | ('0' << 8) | '+',
            ('3' << 24) | ('*' << 16) | ('x' << 8) | '^', ('9' << 24) | ('-' << 16) | ('x' << 8) | '+', ('4' << 24) | ('-' << 16) | ('r' << 8) | '1');
        Check.due("read", x.read(0), 0);
        Check.dueText("the order of bytes", Check.written(x, 0), "12x^10+3x^9+96x+4");
    }

    private static void good(Supplier<PolyLathe> maker, String text, String want) {
        PolyLathe x = maker.get();
        Check.due("reading " + text, Check.read(x, 9, text), 0);
        Check.due("errorAt of " + text, x.errorAt(), -1);
        Check.dueText("the value of " + text, Check.written(x, 9), want);
    }

    private static void bad(Supplier<PolyLathe> maker, String text, int error, int at) {
        PolyLathe x = maker.get();
        x.set(9, 5, 3);
        int before = x.degree(9);
        Check.due("reading " + text, Check.read(x, 9, text), error);
        Check.due("errorAt of " + text, x.errorAt(), at);
        Check.due("the register stays", x.degree(9), before);
        Check.due("the tape is empty", x.count(1), 0);
    }

    private static void readGood() {
        Supplier<PolyLathe> x = () -> {
            PolyLathe made = new PolyLathe();
            made.set(1, 3, 2);
            made.set(1, 0, 5);
            made.set(9, 24, 1);
            return made;
        };
        good(x, "0", "0");
        good(x, "7", "0");
        good(x, "9999", "3");
        good(x, "x", "x");
        good(x, "r1", "2x^3+5");
        good(x, "r 1", "2x^3+5");
        good(x, "r0", "0");
        good(x, "  x  +  1  ", "x+1");
        good(x, "x ^ 2 * 3", "3x^2");
        good(x, "1-2-3", "3");
        good(x, "1-(2-3)", "2");
        good(x, "-x^2", "6x^2");
        good(x, "(-x)^2", "x^2");
        good(x, "-x+x", "0");
        good(x, "--x", "x");
        good(x, "x--x", "2x");
        good(x, "2*-3", "1");
        good(x, "2+3*4", "0");
        good(x, "(2+3)*4", "6");
        good(x, "0^0", "1");
        good(x, "r0^0", "1");
        good(x, "x^0", "1");
        good(x, "0^5", "0");
        good(x, "3^9999", "6");
        good(x, "x^0024", "x^24");
        good(x, "(x^24)^1", "x^24");
        good(x, "0*x^24*x^0", "0");
        good(x, "(x+1)^7", "x^7+1");
        good(x, "x^12*x^12", "x^24");
        good(x, "((((((((x))))))))", "x");
        good(x, "--------x", "x");
        good(x, "--------x-x", "0");
        good(x, "(((((((-x)))))))", "6x");
        good(x, "((((((((1))))))))*((((((((x))))))))^2", "x^2");
        good(x, "(x)*(x)-(-x)", "x^2+x");
        good(x, "((((((((x*2+x*2*2^1-1+1+x*1))))))))", "0");
        good(x, "1+1*(".repeat(8) + "1+1*x" + ")".repeat(8), "x+2");
        good(x, "1-1*".repeat(99) + "x^2", "6x^2+1");
        good(x, "x*1*".repeat(24) + "1", "x^24");
        good(x, "1*".repeat(199) + "x", "x");
        good(x, "1+".repeat(199) + "x", "x+3");
        good(x, " ".repeat(399) + "x", "x");
        good(x, "x" + " ".repeat(399), "x");
        good(x, "r9-r9+x", "x");
        good(x, "r9+r9", "2x^24");
    }

    private static void readBad() {
        Supplier<PolyLathe> x = () -> {
            PolyLathe made = new PolyLathe();
            made.set(1, 13, 2);
            return made;
        };
        bad(x, "", 1, 0);
        bad(x, "   ", 1, 3);
        bad(x, "+x", 1, 0);
        bad(x, "x+", 1, 2);
        bad(x, "x + ", 1, 4);
        bad(x, "x^", 1, 2);
        bad(x, "x^x", 1, 2);
        bad(x, "x^-1", 1, 2);
        bad(x, "x^2^3", 1, 3);
        bad(x, "2x", 1, 1);
        bad(x, "x2", 1, 1);
        bad(x, "x x", 1, 2);
        bad(x, "1 2", 1, 2);
        bad(x, "12345", 1, 4);
        bad(x, "x^00001", 1, 6);
        bad(x, "x^12345", 1, 6);
        bad(x, "r", 1, 1);
        bad(x, "r ", 1, 2);
        bad(x, "rx", 1, 1);
        bad(x, "r12", 1, 2);
        bad(x, "r1 2", 1, 3);
        bad(x, "()", 1, 1);
        bad(x, "(x", 1, 2);
        bad(x, "x)", 1, 1);
        bad(x, "(x))", 1, 3);
        bad(x, "x**x", 1, 2);
        bad(x, "x*+x", 1, 2);
        bad(x, "X", 1, 0);
        bad(x, "x\t", 1, 1);
        bad(x, "x\0", 1, 1);
        bad(x, "x/2", 1, 1);
        bad(x, "(((((((((x)))))))))", 1, 8);
        bad(x, "---------x", 1, 8);
        bad(x, "--((((((-(x", 1, 8);
        bad(x, "((((((((-x))))))))", 1, 8);
        bad(x, "((((((((x)))))))) - - - - - - - - - -x", 1, 36);
        bad(x, "x^25", 2, 1);
        bad(x, "x^9999", 2, 1);
        bad(x, "x^12*x^13", 2, 4);
        bad(x, "r1*r1", 2, 2);
        bad(x, "r1^2", 2, 2);
        bad(x, "x ^ 25", 2, 2);
        bad(x, "r1*(x^25)", 2, 5);
        bad(x, "r1*r1*x^25", 2, 2);
        bad(x, "x^20*x^5^", 1, 8);
        bad(x, "x^25+", 1, 5);
        bad(x, "0*x^25", 2, 3);
        bad(x, "(x^24+x)*(x-x+1)*x", 2, 16);
        bad(x, " ".repeat(400), 1, 400);
        bad(x, "1+".repeat(200), 1, 400);
        bad(x, "(" + "1+".repeat(199) + "x", 1, 400);
        bad(x, "1+".repeat(198) + "x^25", 2, 397);
        bad(x, "x^13*(1+x^5*x^20)", 2, 11);
        PolyLathe y = new PolyLathe();
        Check.type(y, "x+5");
        Check.raises(y, "read -1", INDEX, () -> y.read(-1));
        Check.raises(y, "read 10", INDEX, () -> y.read(10));
        Check.due("the text is still there", y.read(0), 0);
        Check.dueText("and it", Check.written(y, 0), "x+5");
    }

    private static void coefficients() {
        PolyLathe x = new PolyLathe();
        Check.due("set", x.set(0, 24, -1), 24);
        Check.due("coefficient", x.coefficient(0, 24), 6);
        Check.due("set", x.set(0, 3, Integer.MIN_VALUE), 24);
        Check.due("coefficient", x.coefficient(0, 3), Math.floorMod(Integer.MIN_VALUE, 7));
        Check.due("set", x.set(0, 0, Integer.MAX_VALUE), 24);
        Check.due("coefficient", x.coefficient(0, 0), Integer.MAX_VALUE % 7);
        Check.due("set 0 on top", x.set(0, 24, 14), 3);
        Check.due("degree", x.degree(0), 3);
        Check.due("set 0 below", x.set(0, 0, 0), 3);
        Check.due("set 0 on top", x.set(0, 3, -7), -1);
        Check.due("degree", x.degree(0), -1);
        Check.due("coefficient above the degree", x.coefficient(0, 24), 0);
        for (int wrong : new int[] {-1, 10, Integer.MAX_VALUE, Integer.MIN_VALUE}) {
            Check.raises(x, "set", INDEX, () -> x.set(wrong, 0, 1));
            Check.raises(x, "coefficient", INDEX, () -> x.coefficient(wrong, 0));
            Check.raises(x, "degree", INDEX, () -> x.degree(wrong));
            Check.raises(x, "write", INDEX, () -> x.write(wrong));
        }
        for (int wrong : new int[] {-1, 25, Integer.MAX_VALUE, Integer.MIN_VALUE}) {
            Check.raises(x, "set", INDEX, () -> x.set(0, wrong, 1));
            Check.raises(x, "coefficient", INDEX, () -> x.coefficient(0, wrong));
        }
    }

    private static void writing() {
        PolyLathe x = new PolyLathe();
        x.begin(97);
        Check.dueText("0", Check.written(x, 0), "0");
        String[] texts = {"1", "x", "x+1", "2x", "x^2", "10x^2+96", "x^24+x+1", "96x^24", "x^10+20x^9"};
        for (String text : texts) {
            Check.put(x, 1, text.replaceAll("([0-9])x", "$1*x"));
            Check.dueText("writing " + text, Check.written(x, 1), text);
        }
        StringBuilder longest = new StringBuilder();
        for (int k = 24; k >= 0; k--) {
            x.set(2, k, 96);
            longest.append(k == 24 ? "96" : "+96").append(k > 0 ? "x" : "").append(k > 1 ? "^" + k : "");
        }
        Check.due("write", x.write(2), longest.length());
        Check.dueText("the longest", Check.written(x, 2), longest.toString());
        Check.raises(x, "byteAt -1", INDEX, () -> x.byteAt(-1));
        Check.raises(x, "byteAt the end", INDEX, () -> x.byteAt(longest.length()));
        Check.due("count 2", x.count(2), longest.length());
        x.write(0);
        Check.due("count 2", x.count(2), 1);
        Check.due("byteAt", x.byteAt(0), '0');
        Check.raises(x, "byteAt of what was there", INDEX, () -> x.byteAt(1));
    }

    private static void counts() {
        PolyLathe x = new PolyLathe();
        x.begin(13);
        Check.put(x, 0, "x^2-1");
        x.write(0);
        x.factor(0);
        x.point(1, 1);
        x.point(2, 1);
        x.point(12, 1);
        Check.type(x, "1234567");
        int[] want = {13, 7, 6, 3, 2};
        for (int what = 0; what < 5; what++) {
            Check.due("count " + what, x.count(what), want[what]);
        }
        Check.raises(x, "count -1", INDEX, () -> x.count(-1));
        Check.raises(x, "count 5", INDEX, () -> x.count(5));
    }

    public static void main(String[] args) {
        newObject();
        begin();
        beginKeepsTexts();
        feedAndTrim();
        order();
        readGood();
        readBad();
        coefficients();
        writing();
        counts();
        Check.end("TextsTest");
    }
}
