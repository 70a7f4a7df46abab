/** Promises 22 to 29: parts. */
public final class PartsTest {
    private static final Class<IndexOutOfBoundsException> INDEX = IndexOutOfBoundsException.class;
    private static final Class<IllegalStateException> STATE = IllegalStateException.class;
    private static final int[] NO_REGISTERS = {-1, 10, Integer.MAX_VALUE, Integer.MIN_VALUE};

    private PartsTest() {
    }

    private static void root() {
        PolyLathe x = new PolyLathe();
        Check.put(x, 0, "(x-5)*(x-1)^3*(x^2+1)");
        Check.due("root 0", x.root(0, 0), 1);
        Check.due("root 1", x.root(0, 1), 5);
        Check.due("root 2", x.root(0, 2), -1);
        Check.due("root 96", x.root(0, 96), -1);
        Check.put(x, 1, "3");
        Check.due("root of a number", x.root(1, 0), -1);
        Check.put(x, 2, "x^7-x");
        for (int index = 0; index <= 96; index++) {
            Check.due("root of 0", x.root(9, index), index < 7 ? index : -1);
            Check.due("root of x^7-x", x.root(2, index), index < 7 ? index : -1);
        }
        x.begin(97);
        Check.due("root of 0", x.root(9, 96), 96);
        for (int wrong : NO_REGISTERS) {
            Check.raises(x, "a", INDEX, () -> x.root(wrong, 0));
        }
        for (int wrong : new int[] {-1, 97, Integer.MAX_VALUE, Integer.MIN_VALUE}) {
            Check.raises(x, "index", INDEX, () -> x.root(0, wrong));
        }
    }

    /** What is wanted: for each factor how it is written, ":" and how often it stands in the product. */
    private static void factored(int p, String text, String... want) {
        PolyLathe x = Check.begun(p);
        Check.put(x, 0, text);
        long degree = x.degree(0);
        Check.due("factor of " + text, x.factor(0), want.length);
        Check.due("count 4", x.count(4), want.length);
        Check.due("a stays", x.degree(0), degree);
        for (int i = 0; i < want.length && i < x.count(4); i++) {
            int taken = x.take(i, 9);
            Check.due("part 0", x.part(i, 0), taken);
            Check.dueText(text + " " + i, Check.written(x, 9) + ":" + x.part(i, 1), want[i]);
        }
    }

    private static void factor() {
        factored(7, "3");
        factored(7, "3*x", "x:1");
        factored(7, "x^24", "x:24");
        factored(7, "(x+3)^7*2", "x+3:7");
        factored(7, "(x+3)^14*(x^2+1)^3*x", "x:1", "x+3:14", "x^2+1:3");
        factored(7, "(x^2+1)^8*(x+1)^7", "x+1:7", "x^2+1:8");
        factored(7, "(x^3+2)*(x^2+x+3)*(x^2+3*x+1)*(x^2+1)*(x+6)*(x+2)", "x+2:1", "x+6:1", "x^2+1:1", "x^2+x+3:1", "x^2+3x+1:1", "x^3+2:1");
        factored(7, "x^7-x", "x:1", "x+1:1", "x+2:1", "x+3:1", "x+4:1", "x+5:1", "x+6:1");
        factored(2, "x^24+1", "x+1:8", "x^2+x+1:8");
        factored(2, "x^16+x", "x:1", "x+1:1", "x^2+x+1:1", "x^4+x+1:1", "x^4+x^3+1:1", "x^4+x^3+x^2+x+1:1");
        factored(2, "(x^12+x^3+1)^2", "x^12+x^3+1:2");
        factored(3, "(x+1)^9*(x^2+1)^6*(x+2)^3", "x+1:9", "x+2:3", "x^2+1:6");
        factored(5, "x^24-1", "x+1:1", "x+2:1", "x+3:1", "x+4:1", "x^2+2:1", "x^2+3:1", "x^2+x+1:1", "x^2+x+2:1",
            "x^2+2x+3:1", "x^2+2x+4:1", "x^2+3x+3:1", "x^2+3x+4:1", "x^2+4x+1:1", "x^2+4x+2:1");
    }

    private static void manyFactors() {
        PolyLathe x = new PolyLathe();
        x.begin(97);
        x.set(0, 0, 5);
        for (int a = 0; a < 24; a++) {
            x.set(1, 1, 1);
            x.set(1, 0, a * 4);
            x.reckon(2, 0, 1, 0);
        }
        Check.due("24 factors", x.factor(0), 24);
        for (int i = 0; i < 24; i++) {
            Check.due("take", x.take(i, 2), 1);
            Check.due("in their order", x.coefficient(2, 0), i * 4);
            Check.due("once", x.part(i, 1), 1);
        }
        Check.raises(x, "a 25th", INDEX, () -> x.part(24, 0));
    }

    private static void factorThrows() {
        PolyLathe x = new PolyLathe();
        Check.put(x, 0, "x^2*(x+1)");
        x.factor(0);
        Check.raises(x, "factor 0", STATE, () -> x.factor(9));
        for (int wrong : NO_REGISTERS) {
            Check.raises(x, "factor", INDEX, () -> x.factor(wrong));
            Check.raises(x, "take", INDEX, () -> x.take(0, wrong));
            Check.raises(x, "isIrreducible", INDEX, () -> x.isIrreducible(wrong));
            Check.raises(x, "period", INDEX, () -> x.period(wrong));
        }
        for (int wrong : new int[] {-1, 2, Integer.MAX_VALUE, Integer.MIN_VALUE}) {
            Check.raises(x, "part", INDEX, () -> x.part(wrong, 0));
            Check.raises(x, "what", INDEX, () -> x.part(0, wrong));
            Check.raises(x, "take", INDEX, () -> x.take(wrong, 0));
        }
        Check.due("what is kept", x.part(0, 1), 2);
        Check.put(x, 0, "x^5+3");
        Check.holds("not the factors", !x.isIrreducible(9));
        x.isIrreducible(0);
        x.period(0);
        Check.due("kept till they are found anew", x.part(0, 1) * 10 + x.count(4), 22);
        Check.put(x, 0, "4");
        x.factor(0);
        Check.raises(x, "found anew", INDEX, () -> x.part(0, 0));
    }

    private static void irreducible() {
        PolyLathe x = new PolyLathe();
        String[] yes = {"x", "3*x+1", "x^2+1", "3*x^2+3", "x^3+2", "2*x^3+4"};
        String[] no = {"0", "1", "6", "x^2", "x^2-1", "(x^2+1)^2", "(x^2+1)*(x^2+2)", "x^7+1", "x^14+x^7+1"};
        for (String text : yes) {
            Check.put(x, 0, text);
            Check.holds(text + " is irreducible", x.isIrreducible(0));
        }
        for (String text : no) {
            Check.put(x, 0, text);
            Check.holds(text + " is not irreducible", !x.isIrreducible(0));
        }
        x.begin(2);
        Check.put(x, 0, "x^24+x^7+x^2+x+1");
        Check.holds("one of degree 24", x.isIrreducible(0));
        Check.put(x, 0, "(x^12+x^3+1)*(x^12+x^9+1)");
        Check.holds("one of two parts", !x.isIrreducible(0));
    }

    private static void lasts(int p, String text, int want) {
        PolyLathe x = Check.begun(p);
        Check.put(x, 0, text);
        Check.due("period of " + text, x.period(0), want);
    }

    private static void period() {
        lasts(7, "0", -1);
        lasts(7, "1", 1);
        lasts(7, "5", 1);
        lasts(7, "x", -1);
        lasts(7, "x*(x-1)", -1);
        lasts(7, "x-1", 1);
        lasts(7, "3*x-3", 1);
        lasts(7, "x+1", 2);
        lasts(7, "x-3", 6);
        lasts(7, "(x-1)^2", 7);
        lasts(7, "2*x^2+2", 4);
        lasts(7, "x^24-1", 24);
        lasts(7, "(x-3)^8", 294);
        lasts(7, "x^20+x^10+x^5+2", 3000);
        lasts(47, "x^4+x^2-1", 64);
        lasts(47, "(x^4+x^2-1)*(x-1)", 64);
        // 64 * 47 = 3008 is too long.
        lasts(47, "(x^4+x^2-1)*(x-1)^2", -1);
        lasts(2, "x^11+x^2+1", 2047);
        lasts(2, "x^12+x^6+x^4+x+1", -1);
        lasts(3, "(x^7+2*x^2+1)", 2186);
        lasts(53, "x^2+x+5", 2808);
        lasts(59, "x^2+x+2", -1);
    }

    private static void meanDegree() {
        PolyLathe x = new PolyLathe();
        Check.dueReal("of none", x.meanDegree(), 0.0);
        Check.put(x, 0, "3");
        Check.dueReal("of 3", x.meanDegree(), 0.0);
        Check.put(x, 1, "x^24");
        Check.dueReal("of two", x.meanDegree(), 12.0);
        Check.put(x, 9, "x");
        Check.dueReal("of three", x.meanDegree(), 25.0 / 3.0);
    }

    private static void digest() {
        PolyLathe x = new PolyLathe();
        long d = 443;
        int[] fresh = {7, 0, 0, 0, 0, -1, -1, -1, -1, -1, -1, -1, -1, -1, -1};
        for (int n : fresh) {
            d = d * 31 + n;
        }
        Check.due("digest of a new one", x.digest(), d);
        x.point(5, 3);
        x.point(2, 6);
        Check.put(x, 1, "3*(x+1)^2*x");
        x.factor(1);
        x.write(1);
        Check.type(x, "xx");
        int[] then = {7, 2, 12, 2, 2, -1, 3, 0, 3, 6, 3, -1, -1, -1, -1, -1, -1, -1, -1, 2, 6, 5, 3, 1, 1, 0, 1, 1, 2, 1, 1};
        d = 443;
        for (int n : then) {
            d = d * 31 + n;
        }
        for (char c : "3x^3+6x^2+3x".toCharArray()) {
            d = d * 31 + c;
        }
        Check.due("digest", x.digest(), d);
        Check.due("digest changes nothing", x.digest(), d);
    }

    public static void main(String[] args) {
        root();
        factor();
        manyFactors();
        factorThrows();
        irreducible();
        period();
        meanDegree();
        digest();
        Check.end("PartsTest");
    }
}
