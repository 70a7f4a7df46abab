/** Each sentence of the document about reckoning and points (promises 13 to 21, 'Terms') that names a bound, on both sides of it. */
public final class BoundsOfReckoningTest {
    private static final Class<IndexOutOfBoundsException> INDEX = IndexOutOfBoundsException.class;
    private static final Class<IllegalArgumentException> ARGUMENT = IllegalArgumentException.class;
    private static final Class<IllegalStateException> STATE = IllegalStateException.class;
    private static final int[] PRIMES = {2, 3, 5, 7, 11, 13, 17, 19, 23, 29, 31, 37, 41, 43, 47, 53, 59, 61, 67, 71, 73, 79, 83, 89, 97};

    private BoundsOfReckoningTest() {
    }

    private static void reckoned(int p, int sort, String a, String b, String want) {
        PolyLathe x = Check.begun(p);
        Check.put(x, 0, a);
        Check.put(x, 9, b);
        int degree = x.reckon(sort, 0, 9, 5);
        Check.dueText("reckon(" + sort + ") of " + a + " and " + b, Check.written(x, 5), want);
        Check.due("its degree", degree, x.degree(5));
    }

    // ---- the field

    /** "1 / c is the number whose product with c is 1": each number of each field, and what the field wraps around. */
    private static void numbersOfEachField() {
        for (int p : PRIMES) {
            PolyLathe x = Check.begun(p);
            x.set(0, 0, p - 1);
            x.set(1, 0, 1);
            Check.due("p - 1 + 1", x.reckon(0, 0, 1, 2), -1);
            Check.due("0 - 1", x.reckon(1, 2, 1, 2), 0);
            Check.due("is p - 1", x.coefficient(2, 0), p - 1);
            Check.due("(p - 1) * (p - 1)", x.reckon(2, 0, 0, 2), 0);
            Check.due("is 1", x.coefficient(2, 0), 1);
            for (int c = 1; c < p; c++) {
                x = Check.begun(p);
                x.set(3, 0, c);
                x.set(3, 24, c);
                x.set(3, 3, 1);
                Check.due("made monic", x.reckon(6, 3, 3, 4), 24);
                Check.due("leading coefficient", x.coefficient(4, 24), 1);
                Check.due("c / c", x.coefficient(4, 0), 1);
                Check.due("c times 1 / c", c * x.coefficient(4, 3) % p, 1);
            }
        }
    }

    // ---- reckon

    /** reckon: "sort is not 0 to 6" */
    private static void sorts() {
        PolyLathe x = new PolyLathe();
        reckoned(7, 0, "x^2+x", "6*x^2+1", "x+1");
        reckoned(7, 1, "x^2+x", "x^2+1", "x+6");
        reckoned(7, 2, "x+1", "x-1", "x^2+6");
        reckoned(7, 3, "x^2+1", "x+1", "x^2+2x+2");
        reckoned(7, 4, "x^2-1", "2*x+2", "x+1");
        reckoned(7, 5, "x^2+x", "1", "2x+1");
        reckoned(7, 6, "2*x^2+x", "1", "x^2+4x");
        Check.raises(x, "sort -1", ARGUMENT, () -> x.reckon(-1, 0, 1, 2));
        Check.raises(x, "sort 7", ARGUMENT, () -> x.reckon(7, 0, 1, 2));
    }

    /** "There are 10 registers, 0 to 9": the first and the last one, wherever one is asked for. */
    private static void firstAndLastRegister() {
        for (int r : new int[] {0, 9}) {
            PolyLathe x = new PolyLathe();
            int other = 9 - r;
            Check.put(x, r, "x^2-1");
            Check.put(x, other, "x+1");
            Check.due("reckon", x.reckon(2, r, other, r), 3);
            Check.due("divide", x.divide(r, other, 5, other), -1);
            Check.dueText("the quotient", Check.written(x, 5), "x^2+6");
            Check.put(x, other, "x+1");
            Check.due("bezout", x.bezout(r, other, other, r), 1);
            Check.dueText("s", Check.written(x, other), "0");
            Check.dueText("t", Check.written(x, r), "1");
            Check.put(x, other, "x+1");
            Check.due("power", x.power(r, 0, other, r), 0);
            Check.due("value", x.value(other, 6), 0);
            Check.due("resultant", x.resultant(r, other), 1);
            Check.due("join", x.join(r), -1);
            Check.due("root", x.root(other, 0), 6);
            Check.due("factor", x.factor(other), 1);
            Check.due("take", x.take(0, r), 1);
            Check.holds("isIrreducible", x.isIrreducible(r));
            Check.due("period", x.period(r), 2);
        }
    }

    /** a * b: "Whatever would have a degree greater than 24 is too great." */
    private static void greatestProduct() {
        for (int left = 0; left <= 24; left++) {
            PolyLathe x = new PolyLathe();
            x.set(0, left, 3);
            x.set(1, 24 - left, 5);
            Check.due("24", x.reckon(2, 0, 1, 2), 24);
            Check.due("its coefficient", x.coefficient(2, 24), 1);
            x.set(1, 24 - left, 0);
            Check.due("times 0", x.reckon(2, 0, 1, 2), -1);
            Check.due("0 times", x.reckon(2, 1, 0, 2), -1);
            if (left > 0) {
                x.set(1, 25 - left, 1);
                x.set(3, 2, 4);
                Check.raises(x, "25", STATE, () -> x.reckon(2, 0, 1, 3));
                Check.raises(x, "25", STATE, () -> x.reckon(2, 1, 0, 3));
                Check.due("where it would be put", x.coefficient(3, 2), 4);
            }
        }
    }

    /** a with b in the place of x: too great where the product of the degrees is greater than 24. */
    private static void greatestComposition() {
        for (int outer = 0; outer <= 24; outer++) {
            for (int inner = 0; inner <= 24; inner++) {
                PolyLathe x = new PolyLathe();
                x.set(0, outer, 2);
                x.set(1, inner, 6);
                if (outer * inner <= 24) {
                    int want = inner > 0 ? outer * inner : 0;
                    Check.due(outer + " of " + inner, x.reckon(3, 0, 1, 2), want);
                    Check.due("its coefficient", x.coefficient(2, want), outer % 2 == 0 ? 2 : 5);
                } else {
                    Check.raises(x, outer + " of " + inner, STATE, () -> x.reckon(3, 0, 1, 2));
                }
            }
        }
    }

    /** a with b in the place of x, where one of them is 0 or a number. */
    private static void compositionOfNumbers() {
        reckoned(7, 3, "0", "0", "0");
        reckoned(7, 3, "0", "x^24", "0");
        reckoned(7, 3, "5", "0", "5");
        reckoned(7, 3, "5", "x^24", "5");
        reckoned(7, 3, "x^24+x+2", "0", "2");
        reckoned(7, 3, "x^24+x+2", "1", "4");
        reckoned(7, 3, "x^24+x", "6", "0");
        reckoned(7, 3, "x^24+x+2", "x", "x^24+x+2");
        reckoned(7, 3, "x", "x^24+x+2", "x^24+x+2");
        reckoned(7, 3, "x^24", "x+1", "x^24+3x^23+3x^22+x^21+3x^17+2x^16+2x^15+3x^14+3x^10+2x^9+2x^8+3x^7+x^3+3x^2+3x+1");
    }

    /** a + b, a - b, the greatest common divisor, the derivative and what is made monic are never too great. */
    private static void neverTooGreat() {
        reckoned(7, 0, "x^24", "x^24+1", "2x^24+1");
        reckoned(7, 1, "x^24", "2*x^24", "6x^24");
        reckoned(7, 0, "x^24+x", "6*x^24", "x");
        reckoned(7, 1, "x^24", "x^24", "0");
        reckoned(7, 0, "0", "0", "0");
        reckoned(7, 1, "0", "x^24", "6x^24");
        reckoned(7, 4, "3*x^24", "5*x^24", "x^24");
        reckoned(7, 5, "x^24", "x^24", "3x^23");
        reckoned(7, 6, "3*x^24+1", "x^24", "x^24+5");
    }

    /** "The greatest common divisor of a and b, not both 0, is the monic one of the greatest degree ...; that of 0 and 0 is 0." */
    private static void commonDivisors() {
        reckoned(7, 4, "0", "0", "0");
        reckoned(7, 4, "0", "3", "1");
        reckoned(7, 4, "3", "0", "1");
        reckoned(7, 4, "0", "2*x+1", "x+4");
        reckoned(7, 4, "2*x+1", "0", "x+4");
        reckoned(7, 4, "2", "3", "1");
        reckoned(7, 4, "2", "x^24", "1");
        reckoned(7, 4, "x", "x+1", "1");
        reckoned(7, 4, "2*x^3", "3*x^24", "x^3");
    }

    /** The derivative: of 0 and of a number 0; powers that p divides are gone. */
    private static void derivatives() {
        reckoned(7, 5, "0", "x", "0");
        reckoned(7, 5, "6", "x", "0");
        reckoned(7, 5, "3*x+6", "x", "3");
        reckoned(7, 5, "x^21+x^14+x^7+1", "x", "0");
        reckoned(7, 5, "x^22+x^14+x^8", "x", "x^21+x^7");
        reckoned(2, 5, "x^24+x^23+x^2+x", "x", "x^22+1");
    }

    /** made monic: "0 stays 0"; b "does not matter, but has to be a register" (also for the derivative) */
    private static void monicAndUnusedRegisters() {
        PolyLathe x = new PolyLathe();
        reckoned(7, 6, "0", "x", "0");
        reckoned(7, 6, "1", "x", "1");
        reckoned(7, 6, "6", "x", "1");
        reckoned(7, 6, "x^24+3", "x", "x^24+3");
        for (int sort = 5; sort <= 6; sort++) {
            int kind = sort;
            for (int b = 0; b <= 9; b++) {
                Check.put(x, 0, "2*x^3+x");
                Check.due("any b", x.reckon(kind, 0, b, 0), sort == 5 ? 2 : 3);
                Check.dueText("of a", Check.written(x, 0), sort == 5 ? "6x^2+1" : "x^3+4x");
            }
            Check.raises(x, "b = -1", INDEX, () -> x.reckon(kind, 0, -1, 2));
            Check.raises(x, "b = 10", INDEX, () -> x.reckon(kind, 0, 10, 2));
        }
    }

    // ---- registers that are the same

    /** In the registers 0, 1 and 2 stand what can be joined by any sort; 3 and 4 take copies of two of them. */
    private static PolyLathe withThree(int a, int b) {
        PolyLathe x = new PolyLathe();
        String[] texts = {"3*x^4+2*x+1", "5*x^3+x^2+4", "2*x^2+3*x"};
        for (int r = 0; r <= 2; r++) {
            Check.put(x, r, texts[r]);
        }
        Check.put(x, 3, texts[a]);
        Check.put(x, 4, texts[b]);
        return x;
    }

    private static void alike(String what, PolyLathe x, int to, PolyLathe y, int apart) {
        Check.dueText(what, Check.written(x, to), Check.written(y, apart));
    }

    /** "registers can be the same, what is told is of those that were there ahead": reckon and power. */
    private static void sameRegisters() {
        for (int n = 0; n < 27; n++) {
            int a = n % 3;
            int b = n / 3 % 3;
            int to = n / 9;
            for (int sort = 0; sort <= 6; sort++) {
                String what = "reckon(" + sort + ", " + a + ", " + b + ", " + to + ")";
                PolyLathe x = withThree(a, b);
                PolyLathe y = withThree(a, b);
                Check.due(what, x.reckon(sort, a, b, to), y.reckon(sort, 3, 4, 5));
                alike(what, x, to, y, 5);
            }
            String what = "power(" + a + ", 5, " + b + ", " + to + ")";
            PolyLathe x = withThree(a, b);
            PolyLathe y = withThree(a, b);
            Check.due(what, x.power(a, 5, b, to), y.power(3, 5, 4, 5));
            alike(what, x, to, y, 5);
            Check.due("resultant", x.resultant(a, a), 0);
        }
    }

    /** The same for divide and bezout. */
    private static void sameRegistersOfTwo() {
        for (int n = 0; n < 81; n++) {
            int a = n % 3;
            int b = n / 3 % 3;
            int first = n / 9 % 3;
            int second = n / 27;
            String what = "(" + a + ", " + b + ", " + first + ", " + second + ")";
            PolyLathe x = withThree(a, b);
            PolyLathe y = withThree(a, b);
            if (first == second) {
                Check.raises(x, "divide" + what, ARGUMENT, () -> x.divide(a, b, first, second));
                Check.raises(x, "bezout" + what, ARGUMENT, () -> x.bezout(a, b, first, second));
                continue;
            }
            Check.due("divide" + what, x.divide(a, b, first, second), y.divide(3, 4, 5, 6));
            alike("q of divide" + what, x, first, y, 5);
            alike("r of divide" + what, x, second, y, 6);
            PolyLathe z = withThree(a, b);
            Check.due("bezout" + what, z.bezout(a, b, first, second), y.bezout(3, 4, 5, 6));
            alike("s of bezout" + what, z, first, y, 5);
            alike("t of bezout" + what, z, second, y, 6);
        }
    }

    // ---- divide, bezout, power, value, resultant

    private static void divided(String a, String b, String quotient, String rest) {
        PolyLathe x = new PolyLathe();
        Check.put(x, 0, a);
        Check.put(x, 1, b);
        String before = Check.written(x, 0) + " by " + Check.written(x, 1);
        int degree = x.divide(0, 1, 2, 3);
        Check.dueText("quotient of " + a + " by " + b, Check.written(x, 2), quotient);
        Check.dueText("remainder of " + a + " by " + b, Check.written(x, 3), rest);
        Check.due("its degree", degree, x.degree(3));
        Check.dueText("a and b stay", Check.written(x, 0) + " by " + Check.written(x, 1), before);
    }

    /** "just one q and one r with a = q * b + r, the degree of r being less than that of b" */
    private static void division() {
        divided("0", "1", "0", "0");
        divided("0", "x^24", "0", "0");
        divided("5", "3", "4", "0");
        divided("5", "x", "0", "5");
        divided("x^23", "x^24", "0", "x^23");
        divided("2*x^24+1", "x^24", "2", "1");
        divided("x^24+1", "2*x^24", "4", "1");
        divided("3*x^24", "x^24", "3", "0");
        divided("x^24+x", "1", "x^24+x", "0");
        divided("x^24+x", "6", "6x^24+6x", "0");
        divided("x^24+x+1", "2*x", "4x^23+4", "1");
        divided("x^24-1", "x^12+1", "x^12+6", "0");
    }

    /** divide: "if q and r are the same", "if b is 0"; registers can be the same otherwise. */
    private static void divideInPlace() {
        PolyLathe x = new PolyLathe();
        for (int q = 0; q <= 2; q++) {
            for (int r = 0; r <= 2; r++) {
                Check.put(x, 0, "x^3+2");
                Check.put(x, 1, "3*x+1");
                int quotient = q;
                int rest = r;
                if (q == r) {
                    Check.raises(x, "q = r", ARGUMENT, () -> x.divide(0, 1, quotient, rest));
                    Check.raises(x, "q = r ahead of b = 0", ARGUMENT, () -> x.divide(0, 9, quotient, rest));
                } else {
                    Check.due("divide", x.divide(0, 1, q, r), 0);
                    Check.dueText("quotient", Check.written(x, q), "5x^2+3x+6");
                    Check.dueText("remainder", Check.written(x, r), "3");
                }
            }
        }
        Check.raises(x, "b = 0", STATE, () -> x.divide(0, 9, 1, 2));
        Check.raises(x, "0 by 0", STATE, () -> x.divide(9, 9, 1, 9));
        Check.put(x, 0, "2*x^24+1");
        Check.due("a by a", x.divide(0, 0, 0, 1), -1);
        Check.dueText("is 1", Check.written(x, 0), "1");
        x.divide(0, 0, 1, 0);
        Check.dueText("1 by 1", Check.written(x, 1), "1");
        Check.due("leaves 0", x.degree(0), -1);
    }

    private static void walked(String a, String b, int degree, String s, String t) {
        PolyLathe x = new PolyLathe();
        Check.put(x, 0, a);
        Check.put(x, 1, b);
        Check.due("bezout of " + a + " and " + b, x.bezout(0, 1, 2, 3), degree);
        Check.dueText("s of " + a + " and " + b, Check.written(x, 2), s);
        Check.dueText("t of " + a + " and " + b, Check.written(x, 3), t);
    }

    /** Euclid's way: "As long as r' is not 0", "In the end (if r is not 0) r, s and t are divided by the leading coefficient of r" */
    private static void euclidsWay() {
        walked("0", "0", -1, "1", "0");
        walked("1", "0", 0, "1", "0");
        walked("2*x+1", "0", 1, "4", "0");
        walked("0", "1", 0, "0", "1");
        walked("0", "2*x+1", 1, "0", "4");
        walked("3", "3", 0, "0", "5");
        walked("2", "3", 0, "0", "5");
        walked("3", "x", 0, "5", "0");
        walked("x", "3", 0, "0", "5");
        walked("x^24", "x^24", 24, "0", "1");
        walked("2*x^24", "x^23", 23, "0", "1");
        walked("x^23", "2*x^24", 23, "1", "0");
        String s = "4x^11+3x^10+3x^9+4x^8+4x^7+3x^6+3x^5+4x^4+4x^3+3x^2+3x+1";
        String t = "3x^23+4x^22+4x^21+3x^20+3x^19+4x^18+4x^17+3x^16+3x^15+4x^14+4x^13"
            + "+3x^12+3x^11+3x^10+4x^9+4x^8+3x^7+3x^6+4x^5+4x^4+3x^3+3x^2+4x+4";
        walked("x^24+1", "x^12+x", 0, s, t);
        walked("x^12+x", "x^24+1", 0, t, s);
        walked("x^24+2", "x^23", 0, "4", "3x");
    }

    /** s * a + t * b = r, also where all degrees are the greatest ones; s and t can stand where a and b were. */
    private static void euclidsWayHolds() {
        for (int p : PRIMES) {
            PolyLathe x = new PolyLathe();
            x.begin(p);
            for (int k = 0; k <= 12; k++) {
                x.set(0, k, k * k + 3 * k + 1);
                x.set(1, k, k * k * k + 5 * k + 2);
            }
            x.set(0, 12, 1);
            x.set(1, 12, p - 1);
            x.reckon(4, 0, 1, 4);
            int degree = x.bezout(0, 1, 2, 3);
            Check.due("degree", degree, x.degree(4));
            x.reckon(2, 2, 0, 5);
            x.reckon(2, 3, 1, 6);
            x.reckon(0, 5, 6, 5);
            Check.dueText("s * a + t * b", Check.written(x, 5), Check.written(x, 4));
            String s = Check.written(x, 2);
            String t = Check.written(x, 3);
            Check.due("t, s in the places of a, b", x.bezout(0, 1, 1, 0), degree);
            Check.dueText("s", Check.written(x, 1), s);
            Check.dueText("t", Check.written(x, 0), t);
            for (int r = 0; r <= 9; r++) {
                int same = r;
                Check.raises(x, "s and t the same", ARGUMENT, () -> x.bezout(0, 1, same, same));
            }
        }
    }

    private static void raised(String a, int n, String m, String want) {
        PolyLathe x = new PolyLathe();
        Check.put(x, 0, a);
        Check.put(x, 1, m);
        int degree = x.power(0, n, 1, 2);
        Check.dueText(a + " to the power of " + n + " by " + m, Check.written(x, 2), want);
        Check.due("its degree", degree, x.degree(2));
    }

    /** power: "if n is not 0 to 1000000", "0 to the power of 0 is 1, whose remainder is taken, too" */
    private static void powers() {
        PolyLathe x = new PolyLathe();
        raised("0", 0, "x", "1");
        raised("0", 0, "x^24", "1");
        raised("0", 0, "5", "0");
        raised("0", 1, "x", "0");
        raised("0", 1000000, "x", "0");
        raised("x+1", 0, "x^24", "1");
        raised("x+1", 0, "1", "0");
        raised("x+1", 1, "x^24", "x+1");
        raised("x+1", 1, "x+1", "0");
        raised("x^24+x", 1, "x^24", "x");
        raised("x", 23, "x^24", "x^23");
        raised("x", 24, "x^24", "0");
        raised("x", 24, "x^24+1", "6");
        raised("x^23", 2, "x^24+1", "6x^22");
        raised("x^24+x", 3, "x^2+1", "2x+5");
        raised("x^24", 1000000, "x^2+1", "1");
        raised("x^13", 2, "x^24", "0");
        raised("3", 999999, "x", "6");
        raised("3", 1000000, "x", "4");
        raised("x", 1000000, "x^24-1", "x^16");
        raised("x", 999999, "x^24-1", "x^15");
        raised("2*x", 1000000, "3", "0");
        Check.put(x, 0, "x");
        Check.raises(x, "n = -1", ARGUMENT, () -> x.power(0, -1, 1, 2));
        Check.raises(x, "n = 1000001", ARGUMENT, () -> x.power(0, 1000001, 1, 2));
        Check.raises(x, "n ahead of m = 0", ARGUMENT, () -> x.power(0, 1000001, 9, 2));
        Check.raises(x, "m = 0", STATE, () -> x.power(0, 0, 9, 2));
        Check.raises(x, "m = 0", STATE, () -> x.power(0, 1000000, 9, 2));
    }

    /** value: "its remainder of p is taken" */
    private static void values() {
        PolyLathe x = new PolyLathe();
        for (int p : new int[] {2, 3, 7, 97}) {
            x.begin(p);
            Check.due("of 0", x.value(0, p - 1), 0);
            x.set(1, 0, p - 1);
            Check.due("of a number", x.value(1, 5), p - 1);
            x.set(2, 1, 1);
            for (int at : new int[] {Integer.MIN_VALUE, -p - 1, -p, -1, 0, 1, p - 1, p, p + 1, Integer.MAX_VALUE}) {
                Check.due("x at " + at, x.value(2, at), Math.floorMod(at, p));
            }
            for (int k = 0; k <= 24; k++) {
                x.set(3, k, p - 1);
            }
            Check.due("the greatest one at -1", x.value(3, -1), p - 1);
            Check.due("the greatest one at 1", x.value(3, 1), Math.floorMod(-25, p));
        }
    }

    private static void resulted(String a, String b, int want) {
        PolyLathe x = new PolyLathe();
        Check.put(x, 0, a);
        Check.put(x, 1, b);
        Check.due("resultant of " + a + " and " + b, x.resultant(0, 1), want);
    }

    /** "0 if one of them is 0"; "if b has the degree 0, it is b to the power of the degree of a (1 to the power of 0 is 1, too)" */
    private static void resultantsOfNumbers() {
        resulted("0", "0", 0);
        resulted("0", "1", 0);
        resulted("1", "0", 0);
        resulted("0", "x^24", 0);
        resulted("x^24", "0", 0);
        resulted("1", "1", 1);
        resulted("5", "3", 1);
        resulted("x", "3", 3);
        resulted("2*x+5", "3", 3);
        resulted("x^2", "3", 2);
        resulted("x^24", "3", 1);
        resulted("3", "x", 3);
        resulted("3", "x^3", 6);
        resulted("3", "5*x^23", 5);
    }

    /** "if the degree of a is less than that of b, that of b and a, times -1 if both degrees are odd" and what follows it */
    private static void resultantsBySigns() {
        resulted("x", "x^3+3", 3);
        resulted("x^3+3", "x", 4);
        resulted("x", "x^2+3", 3);
        resulted("x^2+3", "x", 3);
        resulted("x^2", "x^3+3", 2);
        resulted("x^3+3", "x^2", 2);
        resulted("x^2", "x^4+3", 2);
        resulted("x", "x", 0);
        resulted("x", "x+3", 3);
        resulted("x+3", "x", 4);
        resulted("2*x", "3*x+3", 6);
        resulted("x^2", "3*x^2", 0);
        resulted("x^2", "x^2+3", 2);
        resulted("x^24", "x^24+1", 1);
        resulted("x^23", "x^24+3", 5);
        resulted("x^3+2*x+1", "2*x^3+x", 4);
        resulted("2*x^4+1", "3*x", 4);
    }

    /** The resultant as the product of b's values where a is 0: all the numbers of the field, so that the degrees are great. */
    private static void resultantsByRoots() {
        for (int p : PRIMES) {
            PolyLathe x = new PolyLathe();
            x.begin(p);
            int want = 1;
            x.set(0, 0, 1);
            for (int k = 0; k <= 24; k++) {
                x.set(1, k, k * k + 7 * k + 3);
            }
            for (int i = 0; i < 24; i++) {
                x.set(2, 1, 1);
                x.set(2, 0, -i);
                x.reckon(2, 0, 2, 0);
                want = want * x.value(1, i) % p;
            }
            Check.due("resultant", x.resultant(0, 1), want);
            int odd = 24 * x.degree(1) % 2;
            Check.due("the other way round", x.resultant(1, 0), odd == 1 ? (p - want) % p : want);
        }
    }

    // ---- points

    /** point: "if x or y is not 0 to p - 1" */
    private static void coordinates() {
        for (int p : new int[] {2, 3, 23, 29, 97}) {
            PolyLathe x = new PolyLathe();
            x.begin(p);
            Check.due("0, 0", x.point(0, 0), 1);
            Check.due("p - 1, p - 1", x.point(p - 1, p - 1), 2);
            Check.raises(x, "x = -1", ARGUMENT, () -> x.point(-1, 0));
            Check.raises(x, "x = p", ARGUMENT, () -> x.point(p, 0));
            Check.raises(x, "y = -1", ARGUMENT, () -> x.point(0, -1));
            Check.raises(x, "y = p", ARGUMENT, () -> x.point(0, p));
            Check.due("count 3", x.count(3), 2);
            Check.due("moved to y = p - 1", x.point(0, p - 1), 2);
            Check.due("join", x.join(0), 0);
            Check.due("is p - 1", x.coefficient(0, 0), p - 1);
        }
    }

    /** point: "if there are 25, and none with this x" */
    private static void twentyFivePoints() {
        PolyLathe x = new PolyLathe();
        x.begin(23);
        for (int at = 0; at < 23; at++) {
            Check.due("point", x.point(at, at), at + 1);
        }
        Check.due("all of a small field", x.point(22, 0), 23);
        x.begin(97);
        for (int at = 0; at < 25; at++) {
            Check.due("point", x.point(96 - 4 * at, 1), at + 1);
        }
        Check.raises(x, "a 26th", STATE, () -> x.point(95, 1));
        Check.raises(x, "a 26th at 1", STATE, () -> x.point(1, 1));
        Check.raises(x, "y is wrong, too", ARGUMENT, () -> x.point(95, 97));
        Check.due("the first is moved", x.point(96, 0), 25);
        Check.due("the last is moved", x.point(0, 2), 25);
        Check.due("clearPoints", x.clearPoints(), 25);
        Check.due("there is room again", x.point(95, 1), 1);
        for (int at = 0; at < 24; at++) {
            Check.due("point", x.point(at, 1), at + 2);
        }
        Check.raises(x, "a 26th", STATE, () -> x.point(24, 1));
    }

    /** clearPoints: "Returns how many there were." */
    private static void cleared() {
        PolyLathe x = new PolyLathe();
        Check.due("none", x.clearPoints(), 0);
        x.point(3, 4);
        Check.due("one", x.clearPoints(), 1);
        Check.due("none again", x.clearPoints(), 0);
        Check.due("count 3", x.count(3), 0);
        Check.due("join", x.join(0), -1);
        Check.due("the old place is a new point", x.point(3, 5), 1);
        Check.due("join", x.join(0), 0);
        Check.due("of the new one", x.coefficient(0, 0), 5);
    }

    /** join: "a degree less than the number of points": none, one, two, and 25 of them. */
    private static void joined() {
        PolyLathe x = new PolyLathe();
        x.set(0, 24, 1);
        Check.due("none", x.join(0), -1);
        Check.due("coefficient 24", x.coefficient(0, 24), 0);
        x.point(6, 0);
        Check.due("one with y = 0", x.join(0), -1);
        x.point(6, 3);
        Check.due("one", x.join(0), 0);
        x.point(0, 3);
        Check.due("two of the same height", x.join(0), 0);
        x.point(0, 2);
        Check.due("two", x.join(0), 1);
        Check.dueText("the line", Check.written(x, 0), "6x+2");
        for (int at = 0; at < 7; at++) {
            x.point(at, at == 3 ? 1 : 0);
        }
        Check.due("all of the field", x.join(0), 6);
        Check.due("join changes no points", x.count(3), 7);
        x.begin(2);
        x.point(0, 1);
        x.point(1, 0);
        Check.due("two of p = 2", x.join(9), 1);
        Check.dueText("the line", Check.written(x, 9), "x+1");
    }

    /** join: the degree is 24 at most, and just so if it has to be. */
    private static void joinedTwentyFive() {
        for (int degree = 0; degree <= 24; degree++) {
            PolyLathe x = Check.begun(97);
            for (int k = 0; k <= degree; k++) {
                x.set(1, k, 96 - k);
            }
            for (int at = 0; at < 25; at++) {
                x.point(at * 4, x.value(1, at * 4));
            }
            Check.due("join", x.join(2), degree);
            Check.due("the very polynomial", x.reckon(1, 1, 2, 3), -1);
            x.clearPoints();
            for (int at = 0; at < degree; at++) {
                x.point(at, x.value(1, at));
            }
            Check.holds("one point too few", x.join(2) < degree);
        }
    }

    public static void main(String[] args) {
        numbersOfEachField();
        sorts();
        firstAndLastRegister();
        greatestProduct();
        greatestComposition();
        compositionOfNumbers();
        neverTooGreat();
        commonDivisors();
        derivatives();
        monicAndUnusedRegisters();
        sameRegisters();
        sameRegistersOfTwo();
        division();
        divideInPlace();
        euclidsWay();
        euclidsWayHolds();
        powers();
        values();
        resultantsOfNumbers();
        resultantsBySigns();
        resultantsByRoots();
        coordinates();
        twentyFivePoints();
        cleared();
        joined();
        joinedTwentyFive();
        Check.end("BoundsOfReckoningTest");
    }
}
