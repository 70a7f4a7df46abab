import java.math.BigInteger;
import java.util.function.Consumer;
import java.util.function.Supplier;

/** Each sentence of the document about parts (promises 22 to 29) that names a bound, on both sides of it. */
public final class BoundsOfPartsTest {
    private static final Class<IndexOutOfBoundsException> INDEX = IndexOutOfBoundsException.class;
    private static final Class<IllegalStateException> STATE = IllegalStateException.class;
    private static final int[] PRIMES = {2, 3, 5, 7, 11, 13, 17, 19, 23, 29, 31, 37, 41, 43, 47, 53, 59, 61, 67, 71, 73, 79, 83, 89, 97};

    private BoundsOfPartsTest() {
    }

    // ---- root

    /** "index is not 0 to 96"; "-1 if there are not so many" */
    private static void rootsInAscendingOrder() {
        for (int many = 0; many <= 24; many++) {
            PolyLathe x = Check.begun(97);
            x.set(0, 0, 3);
            for (int i = 0; i < many; i++) {
                x.set(1, 1, 1);
                x.set(1, 0, -(96 - 4 * i));
                x.reckon(2, 0, 1, 0);
            }
            for (int index = 0; index <= 96; index++) {
                Check.due("root " + index + " of " + many, x.root(0, index), index < many ? 96 - 4 * (many - 1 - index) : -1);
            }
            Check.raises(x, "index -1", INDEX, () -> x.root(0, -1));
            Check.raises(x, "index 97", INDEX, () -> x.root(0, 97));
        }
    }

    /** "of 0: index, if it is less than p" */
    private static void rootsOfZero() {
        for (int p : PRIMES) {
            PolyLathe x = Check.begun(p);
            Check.due("root 0", x.root(0, 0), 0);
            Check.due("root p - 1", x.root(0, p - 1), p - 1);
            if (p < 97) {
                Check.due("root p", x.root(0, p), -1);
                Check.due("root 96", x.root(0, 96), -1);
            } else {
                Check.raises(x, "root p", INDEX, () -> x.root(0, p));
            }
            Check.raises(x, "root -1", INDEX, () -> x.root(0, -1));
            Check.raises(x, "root 97", INDEX, () -> x.root(0, 97));
        }
    }

    /** "the numbers from 0 to p - 1 at which it is 0": each but once, the least and the greatest one, all of them, none. */
    private static void rootsOfOthers() {
        rooted(7, "1");
        rooted(7, "x", 0);
        rooted(7, "x^24", 0);
        rooted(7, "x+1", 6);
        rooted(7, "(x+1)^5*x^3", 0, 6);
        rooted(7, "x^2+1");
        rooted(7, "x^7-x", 0, 1, 2, 3, 4, 5, 6);
        rooted(7, "(x^6-1)*(x^2+1)", 1, 2, 3, 4, 5, 6);
        rooted(2, "x^24+x^23", 0, 1);
        rooted(2, "x^2+x+1");
        rooted(97, "x-96", 96);
    }

    private static void rooted(int p, String text, int... want) {
        PolyLathe x = Check.begun(p);
        Check.put(x, 0, text);
        for (int index = 0; index <= 96; index++) {
            Check.due("root " + index + " of " + text, x.root(0, index), index < want.length ? want[index] : -1);
        }
    }

    // ---- factor, part, take

    /** What is wanted: for each factor how it is written, ":" and how often it stands in the product. */
    private static void factored(int p, String text, String... want) {
        PolyLathe x = Check.begun(p);
        Check.put(x, 0, text);
        Check.due("factor of " + text, x.factor(0), want.length);
        Check.due("count 4", x.count(4), want.length);
        for (int i = 0; i < want.length && i < x.count(4); i++) {
            int degree = x.take(i, 9);
            Check.due("part 0", x.part(i, 0), degree);
            Check.due("degree", x.degree(9), degree);
            Check.dueText(text + " " + i, Check.written(x, 9) + ":" + x.part(i, 1), want[i]);
        }
        Check.raises(x, "one ahead of the first", INDEX, () -> x.part(-1, 0));
        Check.raises(x, "one behind the last", INDEX, () -> x.part(want.length, 0));
        Check.raises(x, "one behind the last", INDEX, () -> x.take(want.length, 9));
    }

    /** A number has no factors; "if it is 0"; the least degrees. */
    private static void fewestFactors() {
        factored(7, "1");
        factored(7, "6");
        factored(7, "x", "x:1");
        factored(7, "3*x", "x:1");
        factored(7, "5*x+3", "x+2:1");
        factored(7, "2*x^2+2", "x^2+1:1");
        factored(2, "1");
        factored(2, "x", "x:1");
        factored(2, "x+1", "x+1:1");
        factored(2, "x^2+x", "x:1", "x+1:1");
        PolyLathe x = new PolyLathe();
        Check.raises(x, "factor of 0", STATE, () -> x.factor(8));
        x.set(8, 0, 1);
        Check.due("factor of 1", x.factor(8), 0);
        x.set(8, 1, 1);
        Check.due("factor of x+1", x.factor(8), 1);
        Check.raises(x, "factor of 0", STATE, () -> x.factor(9));
        Check.due("count 4 stays", x.count(4), 1);
    }

    /** "how often it stands in the product": once to 24 times, in each field, ahead of p, at p and behind it. */
    private static void howOften() {
        for (int p : PRIMES) {
            for (int often = 1; often <= 24; often++) {
                factored(p, "(x+1)^" + often, "x+1:" + often);
                if (often < 24) {
                    factored(p, "-x^" + (24 - often) + "*(x+1)^" + often, "x:" + (24 - often), "x+1:" + often);
                }
            }
        }
    }

    /** Most different factors: 24 of degree 1, and for p = 2 those of each degree. */
    private static void mostFactors() {
        PolyLathe x = Bench.full();
        for (int i = 0; i < 24; i++) {
            Check.due("degree", x.part(i, 0), 1);
            Check.due("once", x.part(i, 1), 1);
            Check.due("take", x.take(i, 5), 1);
            Check.due("in ascending order", x.coefficient(5, 0), i);
        }
        Check.raises(x, "a 25th", INDEX, () -> x.part(24, 0));
        Check.raises(x, "a 25th", INDEX, () -> x.take(24, 5));
        factored(2, "x*(x+1)*(x^2+x+1)*(x^3+x+1)*(x^3+x^2+1)*(x^4+x+1)*(x^4+x^3+1)*(x^4+x^3+x^2+x+1)",
            "x:1", "x+1:1", "x^2+x+1:1", "x^3+x+1:1", "x^3+x^2+1:1", "x^4+x+1:1", "x^4+x^3+1:1", "x^4+x^3+x^2+x+1:1");
    }

    /** "in ascending order: of their degree, of the same degree of their coefficients, the highest one that differs first" */
    private static void orderOfFactors() {
        factored(7, "(x+6)*x*(x+5)^2", "x:1", "x+5:2", "x+6:1");
        factored(7, "(x^2+1)*(x+6)", "x+6:1", "x^2+1:1");
        factored(7, "(x^2+6*x+3)*(x^2+x+6)*(x^2+x+3)*(x^2+4)", "x^2+4:1", "x^2+x+3:1", "x^2+x+6:1", "x^2+6x+3:1");
        factored(7, "(x^3+2)^3*(x^2+6*x+3)*(x+6)^9", "x+6:9", "x^2+6x+3:1", "x^3+2:3");
        factored(7, "(x^3+x^2+1)*(x^3+6*x+2)", "x^3+6x+2:1", "x^3+x^2+1:1");
    }

    /** "They are kept till they are found anew": what else is called does not matter, but for begin. */
    private static void keptTillFoundAnew() {
        PolyLathe x = new PolyLathe();
        Check.put(x, 0, "(x+3)^2*(x^2+1)");
        Check.due("factor", x.factor(0), 2);
        x.set(0, 5, 1);
        Check.put(x, 1, "x^6-1");
        x.reckon(4, 0, 1, 2);
        x.bezout(0, 1, 3, 4);
        x.isIrreducible(1);
        x.period(1);
        x.root(1, 0);
        Check.raises(x, "factor of 0", STATE, () -> x.factor(9));
        Check.raises(x, "factor of none", INDEX, () -> x.factor(10));
        Check.due("count 4", x.count(4), 2);
        Check.due("part(0, 1)", x.part(0, 1), 2);
        Check.due("part(1, 0)", x.part(1, 0), 2);
        Check.due("take", x.take(1, 1), 2);
        x.set(1, 1, 1);
        Check.due("take again", x.take(1, 1), 2);
        Check.dueText("what is taken is a copy", Check.written(x, 1), "x^2+1");
        Check.put(x, 5, "5");
        Check.due("found anew", x.factor(5), 0);
        Check.raises(x, "none are left", INDEX, () -> x.part(0, 0));
        x.factor(1);
        x.begin(7);
        Check.due("none behind begin", x.count(4), 0);
        Check.raises(x, "none behind begin", INDEX, () -> x.take(0, 0));
    }

    /** part: "what is not 0 to 1"; take: "to is not 0 to 9" */
    private static void partsAndTaking() {
        PolyLathe x = new PolyLathe();
        Check.put(x, 0, "(x+3)^2*(x^2+1)");
        x.factor(0);
        Check.raises(x, "part(0, -1)", INDEX, () -> x.part(0, -1));
        Check.due("part(0, 0)", x.part(0, 0), 1);
        Check.due("part(0, 1)", x.part(0, 1), 2);
        Check.raises(x, "part(0, 2)", INDEX, () -> x.part(0, 2));
        Check.due("part(1, 0)", x.part(1, 0), 2);
        Check.due("part(1, 1)", x.part(1, 1), 1);
        Check.raises(x, "part(2, 0)", INDEX, () -> x.part(2, 0));
        Check.raises(x, "take(0, -1)", INDEX, () -> x.take(0, -1));
        Check.due("take(0, 0)", x.take(0, 0), 1);
        Check.due("take(1, 9)", x.take(1, 9), 2);
        Check.raises(x, "take(1, 10)", INDEX, () -> x.take(1, 10));
        Check.dueText("register 0", Check.written(x, 0), "x+3");
        Check.dueText("register 9", Check.written(x, 9), "x^2+1");
    }

    // ---- isIrreducible

    private static void irreducible(int p, String text, boolean want) {
        PolyLathe x = Check.begun(p);
        Check.put(x, 0, text);
        Check.holds(text + (want ? " is" : " is not") + " irreducible", x.isIrreducible(0) == want);
    }

    /** "A polynomial with a degree of at least 1 is irreducible, if no polynomial with a degree of at least 1, but less than its own, divides it." */
    private static void irreducibleOnes() {
        irreducible(7, "0", false);
        irreducible(7, "1", false);
        irreducible(7, "6", false);
        irreducible(7, "x", true);
        irreducible(7, "x+6", true);
        irreducible(7, "3*x+6", true);
        irreducible(7, "x^2", false);
        irreducible(7, "x^2+1", true);
        irreducible(7, "3*x^2+3", true);
        irreducible(7, "x^2+6", false);
        irreducible(7, "(x^2+1)^2", false);
        irreducible(7, "x^7+1", false);
        irreducible(7, "x^24", false);
        irreducible(2, "x^24+x^7+x^2+x+1", true);
        irreducible(2, "(x^12+x^3+1)*(x^12+x^9+1)", false);
        irreducible(2, "(x^23+x^5+1)*x", false);
        irreducible(2, "(x^23+x^5+1)*(x+1)", false);
        irreducible(2, "x^23+x^5+1", true);
        irreducible(2, "x^24+x^16+x^8+1", false);
        irreducible(2, "x^2+x+1", true);
        irreducible(2, "x^2+1", false);
    }

    /** All polynomials of degree 3 and 4 for p = 3: those that are products of smaller ones, and the others. */
    private static void irreducibleOnesOfSmallDegree() {
        int[] found = new int[5];
        for (int n = 3; n < 243; n++) {
            PolyLathe x = Check.begun(3);
            int rest = n;
            for (int k = 0; k <= 4; k++) {
                x.set(0, k, rest % 3);
                rest /= 3;
            }
            if (x.isIrreducible(0)) {
                found[x.degree(0)]++;
                x.factor(0);
                Check.due("one factor", x.count(4) * 10 + x.part(0, 1), 11);
            } else {
                x.factor(0);
                Check.holds("a smaller factor", x.part(0, 0) < x.degree(0));
            }
        }
        int[] want = {0, 6, 6, 16, 36};
        for (int degree = 0; degree <= 4; degree++) {
            Check.due("irreducible ones of degree " + degree, found[degree], want[degree]);
        }
    }

    // ---- period

    private static void lasts(int p, String text, int want) {
        PolyLathe x = Check.begun(p);
        Check.put(x, 0, text);
        Check.due("period of " + text, x.period(0), want);
    }

    /** "of 0 -1, of another number 1"; what x divides has none; the least one is 1. */
    private static void shortestPeriods() {
        lasts(7, "0", -1);
        lasts(7, "1", 1);
        lasts(7, "6", 1);
        lasts(7, "x", -1);
        lasts(7, "5*x", -1);
        lasts(7, "x^24", -1);
        lasts(7, "x^24-x", -1);
        lasts(7, "x-1", 1);
        lasts(7, "2*x-2", 1);
        lasts(7, "x+1", 2);
        lasts(7, "x^2-1", 2);
        lasts(7, "(x-1)^2", 7);
        lasts(7, "x^23-1", 23);
        lasts(7, "x^24-1", 24);
        lasts(7, "x^24+1", 48);
        lasts(2, "1", 1);
        lasts(2, "x+1", 1);
        lasts(2, "x^2+1", 2);
        lasts(2, "x^24+1", 24);
    }

    /** "The least n, 1 to 3000": 2997 and 3000 are told, 3002, the next one that there is, is not. */
    private static void longestPeriods() {
        lasts(7, "x^20+x^10+x^5+2", 3000);
        lasts(43, "x^20+13*x^15+26*x^10+38*x^5+36", 3000);
        lasts(37, "(x^9-7)*(x-1)", 81);
        lasts(37, "(x^9-7)*(x-1)^2", 2997);
        lasts(23, "x^9+16*x^8+x^7+12*x^6+6*x^5+21*x^4+x^3+3*x^2+19*x+1", -1);
        lasts(73, "x^6+40*x^5+62*x^4+6*x^3+11*x^2+40*x+72", -1);
        lasts(59, "x^8+8*x^7+37*x^6+3*x^5+34*x^4+50*x^3+48*x^2+20*x+1", -1);
        lasts(2, "x^11+x^2+1", 2047);
        lasts(2, "x^12+x^6+x^4+x+1", -1);
    }

    // ---- meanDegree, digest

    /** "the mean of the degrees of all registers that are not 0; 0 if all are" */
    private static void meansOfDegrees() {
        PolyLathe x = new PolyLathe();
        Check.dueReal("all are 0", x.meanDegree(), 0.0);
        x.set(9, 0, 6);
        Check.dueReal("a number is not 0", x.meanDegree(), 0.0);
        x.set(0, 1, 1);
        Check.dueReal("of 0 and 1", x.meanDegree(), 0.5);
        x.set(5, 0, 1);
        Check.dueReal("of 0, 0 and 1", x.meanDegree(), 1.0 / 3.0);
        for (int r = 0; r <= 9; r++) {
            x.set(r, 24, 1);
            x.set(r, 24, r == 0 ? 1 : 0);
            x.set(r, 0, 1);
        }
        Check.dueReal("of 24 and nine times 0", x.meanDegree(), 2.4);
        for (int r = 0; r <= 9; r++) {
            x.set(r, 24, 1);
        }
        Check.dueReal("of ten times 24", x.meanDegree(), 24.0);
        x.set(9, 24, 0);
        x.set(9, 0, 0);
        x.set(0, 24, 0);
        x.set(0, 23, 1);
        Check.dueReal("of nine", x.meanDegree(), 215.0 / 9.0);
        x.begin(7);
        Check.dueReal("all are 0 again", x.meanDegree(), 0.0);
    }

    private static BigInteger behind(BigInteger d, long x) {
        return d.multiply(BigInteger.valueOf(31)).add(BigInteger.valueOf(x));
    }

    /** All that digest names, with calls that are promised elsewhere; points has x and y by turns. */
    private static long digestOf(PolyLathe x, int... points) {
        BigInteger d = BigInteger.valueOf(443);
        int[] counts = new int[5];
        for (int what = 0; what <= 4; what++) {
            counts[what] = x.count(what);
            d = behind(d, counts[what]);
        }
        for (int r = 0; r <= 9; r++) {
            int degree = x.degree(r);
            d = behind(d, degree);
            for (int k = 0; k <= degree; k++) {
                d = behind(d, x.coefficient(r, k));
            }
        }
        for (int c : points) {
            d = behind(d, c);
        }
        for (int i = 0; i < counts[4]; i++) {
            d = behind(behind(d, x.part(i, 0)), x.part(i, 1));
            // Taking the factors would change a register; those of busy are x and x+3, those of full x+i.
            d = behind(behind(d, counts[0] == 7 ? 3 * i : i), 1);
        }
        for (int k = 0; k < counts[2]; k++) {
            d = behind(d, x.byteAt(k));
        }
        return d.longValue();
    }

    /** "which wraps around as a 64-bit integer": reckoned without a bound, and cut to 64 bits in the end. */
    private static void digests() {
        long d = 443;
        for (int n : new int[] {7, 0, 0, 0, 0, -1, -1, -1, -1, -1, -1, -1, -1, -1, -1}) {
            d = d * 31 + n;
        }
        PolyLathe x = new PolyLathe();
        Check.due("of a new one", x.digest(), d);
        Check.due("of a new one", x.digest(), digestOf(x));
        digested("of busy", Bench::busy, y -> { }, 0, 5, 1, 2, 6, 0);
        digested("with a moved point", Bench::busy, y -> y.point(6, 6), 0, 5, 1, 2, 6, 6);
        digested("without points", Bench::busy, y -> y.clearPoints());
        digested("of a shorter tape", Bench::busy, y -> y.trim(7), 0, 5, 1, 2, 6, 0);
        digested("of a shorter paper", Bench::busy, y -> y.write(9), 0, 5, 1, 2, 6, 0);
        digested("of no factors", Bench::busy, y -> y.factor(2), 0, 5, 1, 2, 6, 0);
        digested("behind begin", Bench::full, y -> y.begin(2));
        int[] points = new int[50];
        for (int i = 0; i < 25; i++) {
            points[2 * i] = 72 + i;
            points[2 * i + 1] = 24 - i;
        }
        digested("of full", Bench::full, y -> { }, points);
    }

    private static void digested(String what, Supplier<PolyLathe> maker, Consumer<PolyLathe> change, int... points) {
        PolyLathe x = maker.get();
        change.accept(x);
        Check.due("digest " + what, x.digest(), digestOf(x, points));
    }

    public static void main(String[] args) {
        rootsInAscendingOrder();
        rootsOfZero();
        rootsOfOthers();
        fewestFactors();
        howOften();
        mostFactors();
        orderOfFactors();
        keptTillFoundAnew();
        partsAndTaking();
        irreducibleOnes();
        irreducibleOnesOfSmallDegree();
        shortestPeriods();
        longestPeriods();
        meansOfDegrees();
        digests();
        Check.end("BoundsOfPartsTest");
    }
}
