import java.util.Random;
import java.util.function.Supplier;

/** Each sentence of the document about numbers and texts (promises 1 to 12, 'Texts') that names a bound, on both sides of it. */
public final class BoundsOfTextsTest {
    private static final Class<IndexOutOfBoundsException> INDEX = IndexOutOfBoundsException.class;
    private static final Class<IllegalArgumentException> ARGUMENT = IllegalArgumentException.class;
    private static final Class<IllegalStateException> STATE = IllegalStateException.class;
    private static final String DIGITS = "0123456789";

    private BoundsOfTextsTest() {
    }

    private static void good(PolyLathe x, String text, String want) {
        Check.due("read of " + text, Check.read(x, 9, text), 0);
        Check.due("errorAt of " + text, x.errorAt(), -1);
        Check.due("the tape behind " + text, x.count(1), 0);
        Check.dueText("the value of " + text, Check.written(x, 9), want);
    }

    private static void bad(PolyLathe x, String text, int error, int at) {
        x.set(9, 24, 0);
        x.set(9, 5, 3);
        String before = Check.written(x, 9);
        Check.due("read of " + text, Check.read(x, 9, text), error);
        Check.due("errorAt of " + text, x.errorAt(), at);
        Check.due("the tape behind " + text, x.count(1), 0);
        Check.dueText("the register behind " + text, Check.written(x, 9), before);
    }

    private static void good(Supplier<PolyLathe> maker, String text, String want) {
        good(maker.get(), text, want);
    }

    private static void bad(Supplier<PolyLathe> maker, String text, int error, int at) {
        bad(maker.get(), text, error, at);
    }

    /** p = 7, and 2x^3 in register 1. */
    private static PolyLathe withCube() {
        PolyLathe x = new PolyLathe();
        x.set(1, 3, 2);
        return x;
    }

    /** p = 7, and 3x^24 in register 1. */
    private static PolyLathe withTop() {
        PolyLathe x = new PolyLathe();
        x.set(1, 24, 3);
        return x;
    }

    /** p = 7, and in register r 3x^r. */
    private static PolyLathe withSteps() {
        PolyLathe x = new PolyLathe();
        for (int r = 0; r <= 9; r++) {
            x.set(r, r, 3);
        }
        return x;
    }

    // ---- the object, the field, the tape

    /** "An object is used for at most 512 calls": the last of them is answered as due; what later ones answer is free, so no test asks. */
    private static void fiveHundredAndTwelveCalls() {
        PolyLathe x = new PolyLathe();
        for (int call = 1; call <= 511; call++) {
            Check.due("call " + call, x.set(1, 3, call), call % 7 == 0 ? -1 : 3);
        }
        Check.due("call 512", x.coefficient(1, 3), 511 % 7);
    }

    /** "Creates a workbench with p = 7 and registers that are 0, with an empty tape, an empty paper, and without points." */
    private static void newObject() {
        PolyLathe x = new PolyLathe();
        Check.due("errorAt", x.errorAt(), -1);
        Check.due("p", x.count(0), 7);
        for (int what = 1; what <= 4; what++) {
            Check.due("count " + what, x.count(what), 0);
        }
        for (int r = 0; r <= 9; r++) {
            Check.due("degree", x.degree(r), -1);
            Check.due("coefficient 0", x.coefficient(r, 0), 0);
            Check.due("coefficient 24", x.coefficient(r, 24), 0);
        }
        Check.due("clearPoints", x.clearPoints(), 0);
        Check.dueReal("meanDegree", x.meanDegree(), 0.0);
        Check.due("read of the empty tape", x.read(0), 1);
        Check.due("errorAt", x.errorAt(), 0);
    }

    /** "p is a prime, 2 to 97": the least and the greatest one, and what lies beside. */
    private static void leastAndGreatestField() {
        PolyLathe x = new PolyLathe();
        Check.raises(x, "1", ARGUMENT, () -> x.begin(1));
        Check.due("2", x.begin(2), 7);
        Check.due("3", x.begin(3), 2);
        Check.raises(x, "4", ARGUMENT, () -> x.begin(4));
        Check.due("89", x.begin(89), 3);
        Check.raises(x, "96", ARGUMENT, () -> x.begin(96));
        Check.due("97", x.begin(97), 89);
        Check.raises(x, "98", ARGUMENT, () -> x.begin(98));
        Check.raises(x, "101, a prime", ARGUMENT, () -> x.begin(101));
        Check.due("97 again", x.begin(97), 97);
        Check.due("p", x.count(0), 97);
    }

    /** "all registers are 0, there are no points and factors; tape and paper stay", also with the same p. */
    private static void beginAnew() {
        for (int p : new int[] {2, 7, 97}) {
            PolyLathe x = Bench.busy();
            Check.due("begin", x.begin(p), 7);
            int[] counts = {p, 8, 7, 0, 0};
            for (int what = 0; what <= 4; what++) {
                Check.due("count " + what, x.count(what), counts[what]);
            }
            for (int r = 0; r <= 9; r++) {
                Check.due("degree", x.degree(r), -1);
            }
            Check.raises(x, "part", INDEX, () -> x.part(0, 0));
            Check.raises(x, "take", INDEX, () -> x.take(0, 0));
            Check.due("byte 0", x.byteAt(0), '2');
            Check.due("byte 6", x.byteAt(6), 'x');
            Check.due("errorAt", x.errorAt(), 1);
            Check.due("join", x.join(4), -1);
            Check.due("read of r3+x^2*3", x.read(4), 0);
            Check.dueText("with r3 = 0", Check.written(x, 4), p == 2 ? "x^2" : "3x^2");
        }
    }

    /** "the four bytes of each number, the highest one first": all values of a byte, at each of the twenty places. */
    private static void bytesOfNumbers() {
        PolyLathe x = new PolyLathe();
        for (int place = 0; place < 20; place++) {
            for (int wrong : new int[] {1, 127, 128, 255}) {
                int[] fours = new int[5];
                for (int i = 0; i < 20; i++) {
                    fours[i / 4] = fours[i / 4] << 8 | (i == place ? wrong : i % 2 == 0 ? 'x' : '+');
                }
                Check.due("feed", x.feed(fours[0], fours[1], fours[2], fours[3], fours[4]), 20);
                Check.due("read", x.read(0), 1);
                Check.due("errorAt", x.errorAt(), place);
            }
        }
        x.feed(0x20202020, 0x20202020, 0x20202020, 0x20202020, 0x39392a78);
        x.begin(97);
        Check.due("read", x.read(0), 0);
        Check.dueText("99x", Check.written(x, 0), "2x");
        x.feed(0xf8202020, 0x20202020, 0x20202020, 0x20202020, 0x39392a78);
        Check.due("read of a byte that is x but for its highest bit", x.read(0), 1);
        Check.due("errorAt", x.errorAt(), 0);
    }

    /** "IllegalStateException if there would be more than 400" */
    private static void tapeOfFourHundred() {
        for (int kept = 0; kept <= 400; kept++) {
            PolyLathe x = new PolyLathe();
            Check.type(x, "1+".repeat(200));
            Check.due("trim", x.trim(kept), kept);
            int plus = '+' << 24 | '1' << 16 | '+' << 8 | '1';
            int one = '1' << 24 | '+' << 16 | '1' << 8 | '+';
            int four = kept % 2 == 0 ? one : plus;
            if (kept <= 380) {
                Check.due("feed", x.feed(four, four, four, four, four), kept + 20);
                Check.due("count 1", x.count(1), kept + 20);
            } else {
                Check.raises(x, "feed behind " + kept, STATE, () -> x.feed(four, four, four, four, four));
            }
            int size = x.count(1);
            Check.due("read", x.read(0), size % 2 == 1 ? 0 : 1);
            Check.due("errorAt", x.errorAt(), size % 2 == 1 ? -1 : size);
            Check.due("degree", x.degree(0), size % 2 == 0 || (size + 1) / 2 % 7 == 0 ? -1 : 0);
            Check.due("coefficient", x.coefficient(0, 0), size % 2 == 0 ? 0 : (size + 1) / 2 % 7);
        }
    }

    /** "n is not 0 to the number of bytes of the tape" */
    private static void trimToItsFirstBytes() {
        PolyLathe x = new PolyLathe();
        Check.raises(x, "trim -1 of none", ARGUMENT, () -> x.trim(-1));
        Check.due("trim 0 of none", x.trim(0), 0);
        Check.raises(x, "trim 1 of none", ARGUMENT, () -> x.trim(1));
        Check.type(x, "x^2+3");
        Check.raises(x, "trim 6 of 5", ARGUMENT, () -> x.trim(6));
        Check.due("trim 5 of 5", x.trim(5), 5);
        Check.raises(x, "trim -1", ARGUMENT, () -> x.trim(-1));
        Check.due("trim 3 of 5", x.trim(3), 3);
        Check.raises(x, "what is cut off is gone", ARGUMENT, () -> x.trim(4));
        Check.due("count 1", x.count(1), 3);
        Check.due("read", x.read(0), 0);
        Check.dueText("the first bytes", Check.written(x, 0), "x^2");
        Check.raises(x, "trim 1 behind read", ARGUMENT, () -> x.trim(1));
        Check.type(x, "x");
        Check.due("trim 0", x.trim(0), 0);
        Check.due("read of none", x.read(0), 1);
        Check.due("errorAt", x.errorAt(), 0);
    }

    /** "read reads it, and it is empty behind it": also behind each error, but not behind a refused read. */
    private static void tapeBehindRead() {
        PolyLathe x = new PolyLathe();
        good(x, "x", "x");
        bad(x, "x+", 1, 2);
        bad(x, "x^25", 2, 1);
        Check.type(x, "x+1");
        Check.raises(x, "read(-1)", INDEX, () -> x.read(-1));
        Check.raises(x, "read(10)", INDEX, () -> x.read(10));
        Check.due("count 1", x.count(1), 3);
        Check.due("errorAt is that of the latest read", x.errorAt(), 1);
        Check.due("read(0)", x.read(0), 0);
        Check.due("read(9) of the empty tape", x.read(9), 1);
        Check.due("errorAt", x.errorAt(), 0);
        Check.dueText("register 0", Check.written(x, 0), "x+1");
        Check.due("the whole tape is read", Check.read(x, 9, "1+".repeat(199) + "x"), 0);
        Check.dueText("199 + x", Check.written(x, 9), "x+3");
    }

    /** "the position of the error of the latest read; -1 if it had none, or there was none" */
    private static void errorOfTheLatestRead() {
        PolyLathe x = new PolyLathe();
        Check.due("there was none", x.errorAt(), -1);
        Check.type(x, "x+");
        Check.due("none yet", x.errorAt(), -1);
        Check.due("read", x.read(0), 1);
        Check.due("error 1", x.errorAt(), 2);
        Check.due("told again", x.errorAt(), 2);
        Check.due("read", Check.read(x, 0, "x^12*x^13"), 2);
        Check.due("error 2", x.errorAt(), 4);
        x.begin(5);
        Check.due("begin is no read", x.errorAt(), 4);
        x.feed(0, 0, 0, 0, 0);
        Check.due("feed is no read", x.errorAt(), 4);
        x.trim(0);
        Check.due("trim is no read", x.errorAt(), 4);
        Check.due("read", Check.read(x, 0, "x"), 0);
        Check.due("it had none", x.errorAt(), -1);
        Check.due("read", x.read(0), 1);
        Check.due("at the very first byte", x.errorAt(), 0);
    }

    // ---- the language of the texts

    /** "Blanks can stand anywhere between other bytes (also between r and its digit), but not within a number." */
    private static void blanks() {
        Supplier<PolyLathe> x = BoundsOfTextsTest::withCube;
        String[] bytes = {"-", "(", "x", "+", "12", ")", "^", "3", "*", "r", "1", "-", "-", "x", "^", "02"};
        for (int where = 1; where < bytes.length; where++) {
            for (int many : new int[] {1, 2, 300}) {
                StringBuilder t = new StringBuilder();
                for (int i = 0; i < bytes.length; i++) {
                    t.append(i == where ? " ".repeat(many) : "").append(bytes[i]);
                }
                good(x, t.toString(), "5x^6+5x^5+4x^4+2x^3+x^2");
            }
        }
        good(x, String.join(" ", bytes), "5x^6+5x^5+4x^4+2x^3+x^2");
        for (String other : new String[] {"\t", "\n", "\r", "\0", "\u001f", "!", "\u00a0"}) {
            bad(x, "x" + other + "+1", 1, 1);
            bad(x, "r" + other + "1", 1, 1);
        }
        bad(x, "1 2", 1, 2);
        bad(x, "12 34", 1, 3);
        bad(x, "123   4", 1, 6);
        bad(x, "x^1 2", 1, 4);
        bad(x, "r 1 2", 1, 4);
    }

    /** "A number has 1 to 4 digits." "Error 1: the fifth digit of a number" */
    private static void digitsOfNumbers() {
        Supplier<PolyLathe> x = () -> Check.begun(97);
        good(x, "0", "0");
        good(x, "9", "9");
        good(x, "96", "96");
        good(x, "97", "0");
        good(x, "98", "1");
        good(x, "0000", "0");
        good(x, "0001", "1");
        good(x, "9999", "8");
        bad(x, "10000", 1, 4);
        bad(x, "00000", 1, 4);
        bad(x, "x+10000", 1, 6);
        good(x, "x^0", "1");
        good(x, "x^0001", "x");
        good(x, "x^0024", "x^24");
        bad(x, "x^00001", 1, 6);
        bad(x, "x^10000", 1, 6);
        bad(x, "123456789", 1, 4);
        bad(x, "x^+", 1, 2);
        bad(x, "x^", 1, 2);
        bad(x, "x^/", 1, 2);
        bad(x, "x^:", 1, 2);
        bad(x, "/", 1, 0);
        bad(x, ":", 1, 0);
    }

    /** "r and a digit is the register with this number, as it is ahead of the reading." */
    private static void registersInTexts() {
        Supplier<PolyLathe> x = BoundsOfTextsTest::withSteps;
        for (int r = 0; r <= 9; r++) {
            good(x, "r" + r, r == 0 ? "3" : r == 1 ? "3x" : "3x^" + r);
        }
        good(x, "r0*r9-r1", "2x^9+4x");
        good(x, "r9+r9*2+r9", "5x^9");
        PolyLathe twice = new PolyLathe();
        Check.put(twice, 9, "x+1");
        good(twice, "r9*r9-r9", "x^2+x");
        good(twice, "r9+r9", "2x^2+2x");
        bad(x, "r10", 1, 2);
        bad(x, "r/", 1, 1);
        bad(x, "r:", 1, 1);
        bad(x, "r", 1, 1);
        bad(x, "r-1", 1, 1);
    }

    /** "^ 0 makes 1 of everything." */
    private static void powerZero() {
        Supplier<PolyLathe> x = BoundsOfTextsTest::withTop;
        for (String base : new String[] {"0", "7", "5", "x", "r0", "r1", "(x-x)", "(r1+x)", "(0^0)", "(0^5)"}) {
            good(x, base + "^0", "1");
            good(x, base + "^0000", "1");
        }
        good(x, "0^1", "0");
        good(x, "r1^1", "3x^24");
        good(x, "-x^0", "6");
        good(x, "-0^0", "6");
        good(x, "x^7-x^0", "x^7+6");
    }

    /** "All is reckoned from the left." */
    private static void fromTheLeft() {
        Supplier<PolyLathe> x = PolyLathe::new;
        good(x, "1-2-3", "3");
        good(x, "1-2+3", "2");
        good(x, "2-3*2", "3");
        good(x, "-2*3", "1");
        good(x, "-x^2*x", "6x^3");
        good(x, "2*x^2", "2x^2");
        good(x, "1--x", "x+1");
        bad(x, "x^2^1", 1, 3);
        good(x, "(x^2)^2", "x^4");
    }

    private static final String START = DIGITS + "xr(- ";

    /** "Error 1: the first byte with which the bytes so far are not the beginning of a sum": each byte behind each beginning. */
    private static void bytesBehindBeginnings() {
        String[][] fits = {
            {"", START}, {"-", START}, {"(", START}, {"x+", START}, {"x-", START}, {"x*", START}, {"x*-", START}, {"(x)-", START},
            {" ", START}, {"x", "+-*^ "}, {"1", DIGITS + "+-*^ "}, {"123", DIGITS + "+-*^ "}, {"1234", "+-*^ "}, {"1 ", "+-*^ "},
            {"x ", "+-*^ "}, {"r", DIGITS + " "}, {"r ", DIGITS + " "}, {"r1", "+-*^ "}, {"-r1", "+-*^ "}, {"x^", DIGITS + " "},
            {"x^ ", DIGITS + " "}, {"x^1", DIGITS + "+-* "}, {"x^123", DIGITS + "+-* "}, {"x^1234", "+-* "}, {"x^1 ", "+-* "},
            {"(x", "+-*^) "}, {"(1", DIGITS + "+-*^) "}, {"(r1", "+-*^) "}, {"(x^2", DIGITS + "+-*) "}, {"(x)", "+-*^ "},
            {"(x)^2", DIGITS + "+-* "}, {"((x)", "+-*^) "}, {"((x))", "+-*^ "}, {"(x+", START}, {"(((((((", START},
            {"((((((((", DIGITS + "xr "}, {"-------", START}, {"--------", DIGITS + "xr "}, {"-(-(-(-(", DIGITS + "xr "},
            {"--------x", "+-*^ "}, {"((((((((x", "+-*^) "}, {"((((((((x)", "+-*^) "}, {"((((((((x)+", START},
            {"((((((((x+", DIGITS + "xr "}, {"((((((((x*", DIGITS + "xr "}, {"-------x*", START}, {"--------x*", START}, {"--------x-", START},
        };
        for (String[] fit : fits) {
            for (int b = 0; b <= 255; b++) {
                PolyLathe x = new PolyLathe();
                int at = fit[0].length();
                int answer = Check.read(x, 0, fit[0] + (char) b);
                boolean refused = answer == 1 && x.errorAt() == at;
                String what = "byte " + b + " behind " + fit[0];
                Check.holds(what, refused == (fit[1].indexOf(b) < 0));
                Check.holds(what + " has its error there or at the end", refused || (answer == 1 ? x.errorAt() == at + 1 : answer == 0 || answer == 2));
            }
        }
    }

    /** "Error 1: the end of the tape, if it ends too early" */
    private static void tooEarlyEnds() {
        Supplier<PolyLathe> x = PolyLathe::new;
        for (String text : new String[] {"", "-", "(", "x+", "x-", "x*", "x^", "r", "(x", "(x+1", "((x)", "x*-", "-(x", "x +", "x ^ ", "r ", "(x ", "1+".repeat(200)}) {
            bad(x, text, 1, text.length());
        }
        for (String text : new String[] {"x^25+", "x^25*(x", "x^12*x^13*"}) {
            bad(x, text, 1, text.length());
        }
    }

    /** "Depth: ... It may be at most 8." "Error 1: the "(" or "-" behind which the depth would be 9" */
    private static void depth() {
        Supplier<PolyLathe> x = PolyLathe::new;
        for (int signs = 0; signs < 256; signs++) {
            StringBuilder open = new StringBuilder();
            StringBuilder close = new StringBuilder();
            for (int i = 0; i < 8; i++) {
                boolean minus = (signs >> i & 1) == 1;
                open.append(minus ? '-' : '(');
                close.append(minus ? "" : ")");
            }
            String want = Integer.bitCount(signs) % 2 == 0 ? "x" : "6x";
            good(x, open + "x" + close, want);
            bad(x, open + "(x)" + close, 1, 8);
            bad(x, open + "-x" + close, 1, 8);
            good(x, "0+" + open + "x" + close + "+0", want);
            bad(x, "0*" + open + "(x)" + close, 1, 10);
        }
    }

    /** "1 greater between "(" and its ")", and behind a "-" in front (of a signed) for what it turns" */
    private static void depthComesBack() {
        Supplier<PolyLathe> x = PolyLathe::new;
        good(x, "((((((((x))))))))*((((((((x))))))))", "x^2");
        good(x, "--------x*--------x", "x^2");
        good(x, "--------x---------x", "0");
        good(x, "--------x^2*((((((((x))))))))", "x^3");
        good(x, "(((((((-x*-x)))))))", "x^2");
        good(x, "(((((((-x+(x)))))))-x+(x))", "0");
        good(x, "x-x-x-x-x-x-x-x-x-x-x", "5x");
        bad(x, "(((((((-x+(x*(1))))))))", 1, 13);
        bad(x, "((((((((x)))))))-((x))", 1, 22);
        bad(x, "-------(-x)", 1, 8);
        bad(x, "-------(x-(x))", 1, 10);
        good(x, "-------(x-x)", "0");
        bad(x, "((((((((x-(x)))))))))", 1, 10);
        bad(x, "((((((((x*-x))))))))", 1, 10);
    }

    /** "Error 2 (only if there is no error 1)" */
    private static void errorOneGoesAhead() {
        Supplier<PolyLathe> x = PolyLathe::new;
        bad(x, "x^25", 2, 1);
        bad(x, "x^25)", 1, 4);
        bad(x, "x^25x", 1, 4);
        bad(x, "x^25+10000", 1, 9);
        bad(x, "x^25+", 1, 5);
        bad(x, "x^9999+(((((((((x)))))))))", 1, 15);
        bad(x, "x^25+1", 2, 1);
    }

    /** "the first "*" or "^", in the order in which they are reckoned, whose result is too great (at this byte)" */
    private static void firstTooGreat() {
        Supplier<PolyLathe> x = BoundsOfTextsTest::withTop;
        good(x, "x^24", "x^24");
        bad(x, "x^25", 2, 1);
        good(x, "x^12*x^12", "x^24");
        bad(x, "x^12*x^13", 2, 4);
        good(x, "(x^2+1)^12*0+x^24", "x^24");
        bad(x, "(x^2+1)^13*0", 2, 7);
        good(x, "(x^12)^2", "x^24");
        bad(x, "(x^5)^5", 2, 5);
        good(x, "r1*3", "2x^24");
        bad(x, "r1*x", 2, 2);
        bad(x, "r1 * r1", 2, 3);
        bad(x, "r1^2", 2, 2);
        bad(x, "x*x^24*x^25", 2, 1);
        bad(x, "x^25*x^26", 2, 1);
        bad(x, "x*(x^25)", 2, 4);
        bad(x, "r1*(x*x^25)", 2, 7);
        bad(x, "r1*x+x^25", 2, 2);
        bad(x, "x+r1*x", 2, 4);
        bad(x, "(r1*x)^0", 2, 3);
        bad(x, "0*(r1*x)", 2, 5);
        bad(x, "(x^25-x^25)*1", 2, 2);
        bad(x, "-x^25", 2, 2);
        bad(x, "x^20*x^3*x*x*x", 2, 10);
        bad(x, "1+2*-(x^5*x^20)", 2, 9);
    }

    /** "For "^" the number is taken as it is, up to 9999; what has a degree less than 1 never becomes too great." */
    private static void greatNumbersBehindPowers() {
        Supplier<PolyLathe> x = PolyLathe::new;
        good(x, "x^7", "x^7");
        good(x, "(x+1)^7", "x^7+1");
        bad(x, "x^9999", 2, 1);
        bad(x, "(x+1)^28", 2, 5);
        good(x, "3^9999", "6");
        good(x, "3^9998", "2");
        good(x, "0^9999", "0");
        good(x, "(x-x+3)^9999", "6");
        good(x, "(x-x)^9999*x^24", "0");
        good(x, "r0^9999", "0");
        good(x, "0*x^24*x^24", "0");
        good(x, "x^24*5*5", "4x^24");
        bad(x, "x^24*x^24*0", 2, 4);
        Supplier<PolyLathe> great = () -> Check.begun(97);
        good(great, "5^9999", "46");
        good(great, "96^9999", "96");
        good(great, "x^24*96^9998", "x^24");
    }

    /** "Positions are counted from 0, in bytes": blanks are bytes. */
    private static void positions() {
        Supplier<PolyLathe> x = PolyLathe::new;
        bad(x, "x  ^  25", 2, 3);
        bad(x, "x ^ 12 * x ^ 13", 2, 7);
        bad(x, "x  x", 1, 3);
        bad(x, "y", 1, 0);
        bad(x, "1+".repeat(199) + "x)", 1, 399);
        bad(x, "1+".repeat(197) + "+x^25", 1, 394);
        bad(x, "1+".repeat(197) + "x^25*x", 2, 395);
    }

    // ---- coefficients and writing

    /** set: "its remainder of p (0 to p - 1, also for numbers less than 0) is taken" */
    private static void remainders() {
        PolyLathe x = new PolyLathe();
        for (int p : new int[] {2, 3, 7, 97}) {
            x.begin(p);
            for (int c : new int[] {Integer.MIN_VALUE, Integer.MIN_VALUE + 1, -p - 1, -p, -p + 1, -1, 0, 1, p - 1, p, p + 1, Integer.MAX_VALUE}) {
                int rest = Math.floorMod(c, p);
                Check.due("set " + c, x.set(0, 24, c), rest == 0 ? -1 : 24);
                Check.due("coefficient of " + c, x.coefficient(0, 24), rest);
                Check.due("set " + c, x.set(0, 0, c), rest == 0 ? -1 : 24);
                Check.due("coefficient 0 of " + c, x.coefficient(0, 0), rest);
                x.set(0, 0, 0);
            }
        }
    }

    /** "There are 10 registers, 0 to 9, each with a polynomial of degree at most 24"; "the degree of 0 is -1" */
    private static void degrees() {
        PolyLathe x = new PolyLathe();
        for (int r : new int[] {0, 9}) {
            Check.due("degree of 0", x.degree(r), -1);
            Check.due("set 0 in 0", x.set(r, 24, 0), -1);
            Check.due("set x^0", x.set(r, 0, 1), 0);
            Check.due("set x^1", x.set(r, 1, 1), 1);
            Check.due("set x^24", x.set(r, 24, 6), 24);
            Check.due("degree", x.degree(r), 24);
            Check.raises(x, "set x^25", INDEX, () -> x.set(r, 25, 1));
            Check.raises(x, "set x^-1", INDEX, () -> x.set(r, -1, 1));
            Check.raises(x, "coefficient 25", INDEX, () -> x.coefficient(r, 25));
            Check.due("set what is below", x.set(r, 0, 0), 24);
            Check.due("take x^24 away", x.set(r, 24, 7), 1);
            Check.due("coefficient 24", x.coefficient(r, 24), 0);
            Check.due("take x away", x.set(r, 1, -7), -1);
        }
        x.set(4, 0, 5);
        Check.due("another register", x.degree(5), -1);
        Check.due("register 4", x.degree(4), 0);
    }

    /** "the coefficient (left out if it is 1 and the power is not 0), x and ^ and the power (for 1 x alone, for 0 neither)" */
    private static void written() {
        Check.dueText("0", Check.written(new PolyLathe(), 0), "0");
        for (int k = 0; k <= 24; k++) {
            PolyLathe x = Check.begun(97);
            String power = k == 0 ? "" : k == 1 ? "x" : "x^" + k;
            x.set(1, k, 1);
            Check.dueText("1 and " + power, Check.written(x, 1), k == 0 ? "1" : power);
            for (int c : new int[] {2, 9, 10, 11, 96}) {
                x.set(1, k, c);
                Check.dueText(c + " and " + power, Check.written(x, 1), c + power);
            }
        }
        PolyLathe x = new PolyLathe();
        x.set(1, 24, 1);
        x.set(1, 0, 1);
        Check.dueText("powers with the coefficient 0 left out", Check.written(x, 1), "x^24+1");
        x.set(1, 1, 1);
        Check.dueText("+ between them", Check.written(x, 1), "x^24+x+1");
    }

    /** "on the paper, in the place of what was there"; byteAt: "if there is no such place" */
    private static void paper() {
        PolyLathe x = Bench.full();
        Check.due("the longest", x.count(2), 159);
        Check.due("its last byte", x.byteAt(158), '6');
        Check.raises(x, "behind it", INDEX, () -> x.byteAt(159));
        Check.raises(x, "ahead of it", INDEX, () -> x.byteAt(-1));
        Check.due("write 0", x.write(8), 1);
        Check.due("its byte", x.byteAt(0), '0');
        Check.raises(x, "what was there is gone", INDEX, () -> x.byteAt(1));
        Check.due("count 2", x.count(2), 1);
        x.set(8, 0, 5);
        Check.due("the paper does not follow the register", x.byteAt(0), '0');
        Check.due("write 5", x.write(8), 1);
        Check.due("its byte", x.byteAt(0), '5');
    }

    /** count: "if what is not 0 to 4" */
    private static void counts() {
        PolyLathe x = Bench.full();
        int[] want = {97, 400, 159, 25, 24};
        for (int what = 0; what <= 4; what++) {
            Check.due("count " + what, x.count(what), want[what]);
        }
        Check.raises(x, "count -1", INDEX, () -> x.count(-1));
        Check.raises(x, "count 5", INDEX, () -> x.count(5));
    }

    /** What only tells changes nothing: the factors that were found, the paper, the tape, the latest error. */
    private static void tellingChangesNothing() {
        Random random = new Random(3);
        PolyLathe x = Bench.busy();
        for (int i = 0; i < 25; i++) {
            int a = random.nextInt(10);
            int b = random.nextInt(10);
            x.errorAt();
            x.coefficient(a, b);
            x.degree(a);
            x.byteAt(a % 7);
            x.count(a % 5);
            x.value(a, b);
            x.resultant(a, b);
            x.root(a, b);
            x.part(a % 2, b % 2);
            x.isIrreducible(a);
            x.period(a);
            x.meanDegree();
            x.digest();
        }
        Check.dueText("all behind telling", Bench.everything(x), Bench.everything(Bench.busy()));
    }

    public static void main(String[] args) {
        fiveHundredAndTwelveCalls();
        newObject();
        leastAndGreatestField();
        beginAnew();
        bytesOfNumbers();
        tapeOfFourHundred();
        trimToItsFirstBytes();
        tapeBehindRead();
        errorOfTheLatestRead();
        blanks();
        digitsOfNumbers();
        registersInTexts();
        powerZero();
        fromTheLeft();
        bytesBehindBeginnings();
        tooEarlyEnds();
        depth();
        depthComesBack();
        errorOneGoesAhead();
        firstTooGreat();
        greatNumbersBehindPowers();
        positions();
        remainders();
        degrees();
        written();
        paper();
        counts();
        tellingChangesNothing();
        Check.end("BoundsOfTextsTest");
    }
}
