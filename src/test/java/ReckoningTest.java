/** Promises 13 to 21: reckoning and points. */
public final class ReckoningTest {
    private static final Class<IndexOutOfBoundsException> INDEX = IndexOutOfBoundsException.class;
    private static final Class<IllegalArgumentException> ARGUMENT = IllegalArgumentException.class;
    private static final Class<IllegalStateException> STATE = IllegalStateException.class;
    private static final int[] NO_REGISTERS = {-1, 10, Integer.MAX_VALUE, Integer.MIN_VALUE};

    private ReckoningTest() {
    }

    private static void reckoned(PolyLathe x, int sort, String a, String b, String want) {
        Check.put(x, 0, a);
        Check.put(x, 1, b);
        int degree = x.reckon(sort, 0, 1, 2);
        Check.dueText(sort + " of " + a + " and " + b, Check.written(x, 2), want);
        Check.due("its degree", degree, x.degree(2));
    }

    private static void reckon() {
        PolyLathe x = new PolyLathe();
        reckoned(x, 0, "x^3+x", "6*x^3+1", "x+1");
        reckoned(x, 0, "x", "0", "x");
        reckoned(x, 1, "x", "x^2", "6x^2+x");
        reckoned(x, 1, "x", "x", "0");
        reckoned(x, 2, "x+1", "x+6", "x^2+6");
        reckoned(x, 2, "x^24", "3", "3x^24");
        reckoned(x, 2, "x^24", "0", "0");
        reckoned(x, 3, "x^2+1", "x+3", "x^2+6x+3");
        reckoned(x, 3, "x^24", "3", "1");
        reckoned(x, 3, "x^24+2", "0", "2");
        reckoned(x, 3, "5", "x^24", "5");
        reckoned(x, 3, "0", "x^24", "0");
        reckoned(x, 3, "x^6+x", "x^4", "x^24+x^4");
        reckoned(x, 4, "(x+1)*(x+2)*3", "(x+2)*(x+3)*2", "x+2");
        reckoned(x, 4, "0", "3*x+1", "x+5");
        reckoned(x, 4, "3*x+1", "0", "x+5");
        reckoned(x, 4, "0", "0", "0");
        reckoned(x, 4, "3", "x", "1");
        reckoned(x, 5, "x^14+3*x^8+x^7+x+2", "x", "3x^7+1");
        reckoned(x, 5, "4", "x", "0");
        reckoned(x, 5, "x^24", "x", "3x^23");
        reckoned(x, 6, "3*x^2+x+2", "x", "x^2+5x+3");
        reckoned(x, 6, "0", "x", "0");
        reckoned(x, 6, "4", "x", "1");
    }

    private static void reckonThrows() {
        PolyLathe x = new PolyLathe();
        Check.put(x, 0, "x^24");
        Check.put(x, 1, "x");
        Check.put(x, 2, "x^5");
        Check.raises(x, "too great", STATE, () -> x.reckon(2, 0, 1, 3));
        Check.raises(x, "too great", STATE, () -> x.reckon(2, 0, 0, 0));
        Check.raises(x, "too great", STATE, () -> x.reckon(3, 2, 2, 3));
        Check.due("just not", x.reckon(3, 0, 1, 3), 24);
        for (int sort : new int[] {-1, 7, Integer.MIN_VALUE, Integer.MAX_VALUE}) {
            Check.raises(x, "sort ahead of register", ARGUMENT, () -> x.reckon(sort, 10, 10, 10));
        }
        for (int wrong : NO_REGISTERS) {
            for (int sort = 0; sort < 7; sort++) {
                int s = sort;
                Check.raises(x, "a", INDEX, () -> x.reckon(s, wrong, 0, 0));
                Check.raises(x, "b", INDEX, () -> x.reckon(s, 0, wrong, 0));
                Check.raises(x, "to ahead of too great", INDEX, () -> x.reckon(s, 0, 0, wrong));
            }
        }
    }

    private static void sameRegisters() {
        PolyLathe x = new PolyLathe();
        Check.put(x, 0, "x+1");
        x.reckon(2, 0, 0, 0);
        Check.dueText("a square in its place", Check.written(x, 0), "x^2+2x+1");
        x.reckon(3, 0, 0, 0);
        Check.dueText("in itself", Check.written(x, 0), "x^4+4x^3+x^2+x+4");
        x.reckon(1, 0, 0, 0);
        Check.due("less itself", x.degree(0), -1);
        Check.put(x, 0, "x^3+2");
        Check.put(x, 1, "3*x+1");
        x.divide(0, 1, 1, 0);
        Check.dueText("quotient in the divisor's place", Check.written(x, 1), "5x^2+3x+6");
        Check.dueText("remainder in the dividend's place", Check.written(x, 0), "3");
        Check.put(x, 0, "x^2+1");
        x.divide(0, 0, 0, 1);
        Check.dueText("by itself", Check.written(x, 0), "1");
        Check.due("remainder", x.degree(1), -1);
        Check.put(x, 0, "x^2");
        Check.put(x, 1, "x+1");
        x.bezout(0, 1, 1, 0);
        Check.dueText("s", Check.written(x, 1), "1");
        Check.dueText("t", Check.written(x, 0), "6x+1");
        Check.put(x, 0, "x+1");
        x.power(0, 3, 0, 0);
        Check.due("a power by itself", x.degree(0), -1);
    }

    private static void divide() {
        PolyLathe x = new PolyLathe();
        Check.put(x, 0, "x^24+3");
        Check.put(x, 1, "2*x+1");
        Check.due("divide", x.divide(0, 1, 2, 3), 0);
        Check.due("quotient", x.degree(2), 23);
        x.reckon(2, 1, 2, 4);
        x.reckon(0, 4, 3, 4);
        x.reckon(1, 4, 0, 4);
        Check.due("q * b + r = a", x.degree(4), -1);
        Check.due("divide by a greater one", x.divide(1, 0, 2, 3), 1);
        Check.due("quotient", x.degree(2), -1);
        Check.dueText("remainder", Check.written(x, 3), "2x+1");
        Check.put(x, 5, "3");
        Check.due("divide by a number", x.divide(0, 5, 2, 3), -1);
        Check.dueText("quotient", Check.written(x, 2), "5x^24+1");
        Check.due("divide 0", x.divide(9, 1, 2, 3), -1);
        Check.due("quotient", x.degree(2), -1);
        for (int wrong : NO_REGISTERS) {
            Check.raises(x, "a ahead of q = r", INDEX, () -> x.divide(wrong, 9, 1, 1));
            Check.raises(x, "b", INDEX, () -> x.divide(0, wrong, 1, 1));
            Check.raises(x, "q", INDEX, () -> x.divide(0, 1, wrong, 1));
            Check.raises(x, "r", INDEX, () -> x.divide(0, 1, 1, wrong));
            Check.raises(x, "q = r, none", INDEX, () -> x.divide(0, 1, wrong, wrong));
        }
        Check.raises(x, "q = r ahead of 0", ARGUMENT, () -> x.divide(0, 9, 3, 3));
        Check.raises(x, "0", STATE, () -> x.divide(0, 9, 2, 3));
        Check.raises(x, "0 by 0", STATE, () -> x.divide(9, 9, 2, 3));
    }

    private static void makers(PolyLathe x, String a, String b, int degree, String s, String t) {
        Check.put(x, 0, a);
        Check.put(x, 1, b);
        Check.due("bezout of " + a + " and " + b, x.bezout(0, 1, 2, 3), degree);
        Check.dueText("s of " + a + " and " + b, Check.written(x, 2), s);
        Check.dueText("t of " + a + " and " + b, Check.written(x, 3), t);
    }

    private static void bezout() {
        PolyLathe x = new PolyLathe();
        makers(x, "0", "0", -1, "1", "0");
        makers(x, "3", "0", 0, "5", "0");
        makers(x, "0", "3", 0, "0", "5");
        makers(x, "2", "3", 0, "0", "5");
        makers(x, "x", "x+1", 0, "6", "1");
        makers(x, "x+1", "x", 0, "1", "6");
        makers(x, "2*x", "x", 1, "0", "1");
        makers(x, "x^24+1", "2*x^12", 0, "1", "3x^12");
        makers(x, "2*x^12", "x^24+1", 0, "3x^12", "1");
        makers(x, "x^24", "3", 0, "0", "5");
        for (int wrong : NO_REGISTERS) {
            Check.raises(x, "a ahead of s = t", INDEX, () -> x.bezout(wrong, 0, 1, 1));
            Check.raises(x, "b", INDEX, () -> x.bezout(0, wrong, 1, 1));
            Check.raises(x, "s", INDEX, () -> x.bezout(0, 1, wrong, 1));
            Check.raises(x, "t", INDEX, () -> x.bezout(0, 1, 1, wrong));
        }
        Check.raises(x, "s = t", ARGUMENT, () -> x.bezout(0, 1, 2, 2));
    }

    private static void powered(PolyLathe x, String a, int n, String m, String want) {
        Check.put(x, 0, a);
        Check.put(x, 1, m);
        int degree = x.power(0, n, 1, 2);
        Check.dueText(a + " to the power of " + n + " by " + m, Check.written(x, 2), want);
        Check.due("its degree", degree, x.degree(2));
    }

    private static void power() {
        PolyLathe x = new PolyLathe();
        powered(x, "0", 0, "x", "1");
        powered(x, "0", 0, "3", "0");
        powered(x, "x", 0, "3", "0");
        powered(x, "x", 5, "3", "0");
        powered(x, "0", 5, "x", "0");
        powered(x, "3", 1000000, "x", "4");
        powered(x, "x", 1000000, "x^2+1", "1");
        powered(x, "x", 999999, "x^2+1", "6x");
        powered(x, "x^24", 1, "x", "0");
        powered(x, "x+1", 24, "x^24", "3x^23+3x^22+x^21+3x^17+2x^16+2x^15+3x^14+3x^10+2x^9+2x^8+3x^7+x^3+3x^2+3x+1");
        Check.put(x, 0, "x+1");
        Check.put(x, 1, "x^2");
        for (int wrong : NO_REGISTERS) {
            Check.raises(x, "a ahead of n", INDEX, () -> x.power(wrong, -1, 9, 0));
            Check.raises(x, "m", INDEX, () -> x.power(0, -1, wrong, 0));
            Check.raises(x, "to", INDEX, () -> x.power(0, -1, 9, wrong));
        }
        for (int n : new int[] {-1, 1000001, Integer.MAX_VALUE, Integer.MIN_VALUE}) {
            Check.raises(x, "n ahead of m = 0", ARGUMENT, () -> x.power(0, n, 9, 0));
        }
        Check.raises(x, "m = 0", STATE, () -> x.power(0, 0, 9, 0));
    }

    private static void value() {
        PolyLathe x = new PolyLathe();
        Check.put(x, 0, "2*x^2+x+1");
        int[] want = {1, 4, 4, 1, 2, 0, 2};
        for (int at = -21; at < 21; at++) {
            Check.due("value at " + at, x.value(0, at), want[Math.floorMod(at, 7)]);
        }
        Check.due("value", x.value(0, Integer.MIN_VALUE), want[Math.floorMod(Integer.MIN_VALUE, 7)]);
        Check.due("value", x.value(0, Integer.MAX_VALUE), want[Integer.MAX_VALUE % 7]);
        Check.due("value of 0", x.value(9, 3), 0);
        for (int wrong : NO_REGISTERS) {
            Check.raises(x, "value", INDEX, () -> x.value(wrong, 0));
        }
    }

    private static void resulted(PolyLathe x, String a, String b, int want) {
        Check.put(x, 0, a);
        Check.put(x, 1, b);
        long before = x.digest();
        Check.due("resultant of " + a + " and " + b, x.resultant(0, 1), want);
        Check.due("nothing changes", x.digest(), before);
    }

    private static void resultant() {
        PolyLathe x = new PolyLathe();
        resulted(x, "0", "x", 0);
        resulted(x, "x", "0", 0);
        resulted(x, "0", "0", 0);
        resulted(x, "3", "0", 0);
        resulted(x, "3", "5", 1);
        resulted(x, "x^3+1", "2", 1);
        resulted(x, "2", "x^4", 2);
        resulted(x, "x-2", "x-5", 4);
        resulted(x, "x-5", "x-2", 3);
        resulted(x, "x-5", "x-5", 0);
        resulted(x, "(x-1)*(x-2)", "x-2", 0);
        resulted(x, "3*(x-1)*(x-2)", "2*(x-4)", 3 * 4 * 3 * 2 % 7);
        resulted(x, "2*(x-4)", "3*(x-1)*(x-2)", 3 * 4 * 3 * 2 % 7);
        resulted(x, "x", "x^3+3", 3);
        resulted(x, "x^3+3", "x", 4);
        for (int wrong : NO_REGISTERS) {
            Check.raises(x, "a", INDEX, () -> x.resultant(wrong, 0));
            Check.raises(x, "b", INDEX, () -> x.resultant(0, wrong));
        }
    }

    private static void point() {
        PolyLathe x = new PolyLathe();
        x.begin(29);
        for (int at = 0; at < 25; at++) {
            Check.due("point", x.point(28 - at, at), at + 1);
        }
        Check.raises(x, "a 26th", STATE, () -> x.point(0, 0));
        Check.raises(x, "y ahead of the 26th", ARGUMENT, () -> x.point(0, 29));
        Check.due("moving one of 25", x.point(28, 5), 25);
        for (int wrong : new int[] {-1, 29, Integer.MAX_VALUE, Integer.MIN_VALUE}) {
            Check.raises(x, "x", ARGUMENT, () -> x.point(wrong, 0));
            Check.raises(x, "y", ARGUMENT, () -> x.point(28, wrong));
        }
        Check.due("count 3", x.count(3), 25);
        Check.due("clearPoints", x.clearPoints(), 25);
        Check.due("count 3", x.count(3), 0);
        Check.due("clearPoints", x.clearPoints(), 0);
        Check.due("point again", x.point(28, 28), 1);
    }

    private static void join() {
        PolyLathe x = new PolyLathe();
        x.set(0, 3, 1);
        Check.due("join none", x.join(0), -1);
        x.point(3, 0);
        Check.due("join one at 0", x.join(0), -1);
        x.point(3, 5);
        Check.due("join one", x.join(0), 0);
        Check.due("its value", x.value(0, 0), 5);
        x.point(5, 2);
        Check.due("join two", x.join(0), 1);
        Check.dueText("the line", Check.written(x, 0), "2x+6");
        x.point(0, 6);
        Check.due("join three of a line", x.join(0), 1);
        for (int wrong : NO_REGISTERS) {
            Check.raises(x, "to", INDEX, () -> x.join(wrong));
        }
        x.begin(97);
        for (int at = 0; at < 25; at++) {
            x.point(at * 37 % 97, at * at * at % 97);
        }
        Check.holds("25 points have a degree less than 25", x.join(9) <= 24);
        for (int at = 0; at < 25; at++) {
            Check.due("the value at a point", x.value(9, at * 37 % 97), at * at * at % 97);
        }
        Check.due("the points stay", x.count(3), 25);
    }

    public static void main(String[] args) {
        reckon();
        reckonThrows();
        sameRegisters();
        divide();
        bezout();
        power();
        value();
        resultant();
        point();
        join();
        Check.end("ReckoningTest");
    }
}
