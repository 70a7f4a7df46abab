import java.util.List;
import java.util.function.Consumer;
import java.util.function.Supplier;

/**
 * "A method that throws an exception changes nothing. If several exceptions apply, the one that is named first is thrown."
 * Each refused call is made on objects in several states and compared with a twin that it was not made on.
 */
public final class RefusedTest {
    private static final Class<IndexOutOfBoundsException> INDEX = IndexOutOfBoundsException.class;
    private static final Class<IllegalArgumentException> ARGUMENT = IllegalArgumentException.class;
    private static final Class<IllegalStateException> STATE = IllegalStateException.class;
    private static final List<Supplier<PolyLathe>> STATES = List.of(PolyLathe::new, Bench::busy, Bench::full);
    private static final int LEAST = Integer.MIN_VALUE;
    private static final int GREATEST = Integer.MAX_VALUE;
    private static final int[] NO_REGISTERS = {-1, 10, LEAST, GREATEST};

    private RefusedTest() {
    }

    private static void refused(String what, Class<? extends RuntimeException> type, Consumer<PolyLathe> call) {
        for (int i = 0; i < STATES.size(); i++) {
            Check.refuses(what + " in state " + i, type, STATES.get(i), call);
        }
    }

    private static void busyRefuses(String what, Class<? extends RuntimeException> type, Consumer<PolyLathe> call) {
        Check.refuses(what + " when busy", type, Bench::busy, call);
    }

    private static void fullRefuses(String what, Class<? extends RuntimeException> type, Consumer<PolyLathe> call) {
        Check.refuses(what + " when full", type, Bench::full, call);
    }

    /** "if p is not a prime from 2 to 97" */
    private static void begin() {
        for (int p : new int[] {LEAST, -97, -7, -2, -1, 0, 1, 4, 6, 8, 9, 15, 21, 25, 27, 33, 35, 49, 51, 55, 57, 63, 77, 87, 91, 93, 95, 96,
            98, 99, 100, 101, 103, 107, 109, 65539, GREATEST}) {
            refused("begin(" + p + ")", ARGUMENT, x -> x.begin(p));
        }
    }

    /** "if there would be more than 400" */
    private static void feed() {
        for (int kept = 381; kept <= 400; kept++) {
            int n = kept;
            Supplier<PolyLathe> maker = () -> {
                PolyLathe x = Bench.full();
                x.trim(n);
                return x;
            };
            Check.refuses("feed behind " + n, STATE, maker, x -> x.feed(1, 2, 3, 4, 5));
        }
    }

    /** "if n is not 0 to the number of bytes of the tape" */
    private static void trim() {
        for (int n : new int[] {LEAST, -400, -1, 401, 402, GREATEST}) {
            refused("trim(" + n + ")", ARGUMENT, x -> x.trim(n));
        }
        busyRefuses("trim(9)", ARGUMENT, x -> x.trim(9));
        Check.refuses("trim(1) of none", ARGUMENT, PolyLathe::new, x -> x.trim(1));
    }

    /** "if r is not 0 to 9", "if a is not 0 to 9" */
    private static void oneRegister() {
        for (int r : NO_REGISTERS) {
            refused("read(" + r + ")", INDEX, x -> x.read(r));
            refused("degree(" + r + ")", INDEX, x -> x.degree(r));
            refused("write(" + r + ")", INDEX, x -> x.write(r));
            refused("value(" + r + ")", INDEX, x -> x.value(r, 0));
            refused("join(" + r + ")", INDEX, x -> x.join(r));
            refused("factor(" + r + ")", INDEX, x -> x.factor(r));
            refused("isIrreducible(" + r + ")", INDEX, x -> x.isIrreducible(r));
            refused("period(" + r + ")", INDEX, x -> x.period(r));
        }
    }

    /** "if r is not 0 to 9, or k is not 0 to 24" */
    private static void powersOfX() {
        for (int r : NO_REGISTERS) {
            for (int k : new int[] {-1, 0, 24, 25}) {
                refused("set(" + r + ", " + k + ")", INDEX, x -> x.set(r, k, 1));
                refused("coefficient(" + r + ", " + k + ")", INDEX, x -> x.coefficient(r, k));
            }
        }
        for (int k : new int[] {-1, 25, LEAST, GREATEST}) {
            for (int r : new int[] {0, 9}) {
                refused("set(" + r + ", " + k + ")", INDEX, x -> x.set(r, k, 1));
                refused("set(" + r + ", " + k + ") to 0", INDEX, x -> x.set(r, k, 0));
                refused("coefficient(" + r + ", " + k + ")", INDEX, x -> x.coefficient(r, k));
            }
        }
    }

    /** "if there is no such place", "if what is not 0 to 4" */
    private static void placesAndCounts() {
        for (int k : new int[] {LEAST, -1, 159, 160, 400, GREATEST}) {
            refused("byteAt(" + k + ")", INDEX, x -> x.byteAt(k));
        }
        Check.refuses("byteAt(0) of none", INDEX, PolyLathe::new, x -> x.byteAt(0));
        busyRefuses("byteAt behind 2x^13+x", INDEX, x -> x.byteAt(7));
        for (int what : new int[] {LEAST, -1, 5, GREATEST}) {
            refused("count(" + what + ")", INDEX, x -> x.count(what));
        }
    }

    /** reckon: the sort is named ahead of the registers, these ahead of what is too great. */
    private static void reckon() {
        for (int sort : new int[] {LEAST, -1, 7, GREATEST}) {
            refused("reckon(" + sort + ")", ARGUMENT, x -> x.reckon(sort, 0, 1, 2));
            refused("reckon(" + sort + ") without registers", ARGUMENT, x -> x.reckon(sort, -1, 10, -1));
        }
        for (int r : NO_REGISTERS) {
            for (int s = 0; s <= 6; s++) {
                int sort = s;
                refused("reckon(" + s + ") a = " + r, INDEX, x -> x.reckon(sort, r, 1, 2));
                refused("reckon(" + s + ") b = " + r, INDEX, x -> x.reckon(sort, 0, r, 2));
                refused("reckon(" + s + ") to = " + r, INDEX, x -> x.reckon(sort, 0, 0, r));
            }
        }
        busyRefuses("24 + 2", STATE, x -> x.reckon(2, 0, 1, 4));
        busyRefuses("13 + 13 into one of them", STATE, x -> x.reckon(2, 3, 3, 3));
        busyRefuses("24 * 2", STATE, x -> x.reckon(3, 0, 1, 1));
        busyRefuses("2 * 24", STATE, x -> x.reckon(3, 1, 0, 0));
        fullRefuses("24 + 24", STATE, x -> x.reckon(2, 0, 2, 3));
        fullRefuses("24 * 24", STATE, x -> x.reckon(3, 0, 0, 0));
        fullRefuses("1 + 24", STATE, x -> x.reckon(2, 1, 0, 1));
    }

    /** divide: registers are named ahead of q = r, this ahead of b = 0. */
    private static void divide() {
        for (int r : NO_REGISTERS) {
            refused("divide a = " + r, INDEX, x -> x.divide(r, 1, 2, 3));
            refused("divide b = " + r, INDEX, x -> x.divide(0, r, 2, 3));
            refused("divide q = " + r, INDEX, x -> x.divide(0, 1, r, 3));
            refused("divide r = " + r, INDEX, x -> x.divide(0, 1, 2, r));
            refused("divide a = " + r + " and all", INDEX, x -> x.divide(r, 7, 3, 3));
            refused("divide b = " + r + " and q = r", INDEX, x -> x.divide(0, r, 3, 3));
            refused("divide q = r = " + r, INDEX, x -> x.divide(0, 7, r, r));
            refused("divide q = " + r + " and b = 0", INDEX, x -> x.divide(0, 7, r, 3));
            refused("divide r = " + r + " and b = 0", INDEX, x -> x.divide(0, 7, 3, r));
        }
        for (int r = 0; r <= 9; r++) {
            int same = r;
            refused("divide into one, b = 0", ARGUMENT, x -> x.divide(0, 7, same, same));
            busyRefuses("divide into one", ARGUMENT, x -> x.divide(0, 1, same, same));
        }
        refused("divide by 0", STATE, x -> x.divide(0, 7, 2, 3));
        refused("divide 0 by 0", STATE, x -> x.divide(7, 7, 0, 1));
    }

    /** bezout: registers are named ahead of s = t. */
    private static void bezout() {
        for (int r : NO_REGISTERS) {
            refused("bezout a = " + r, INDEX, x -> x.bezout(r, 1, 2, 3));
            refused("bezout b = " + r, INDEX, x -> x.bezout(0, r, 2, 3));
            refused("bezout s = " + r, INDEX, x -> x.bezout(0, 1, r, 3));
            refused("bezout t = " + r, INDEX, x -> x.bezout(0, 1, 2, r));
            refused("bezout a = " + r + " and s = t", INDEX, x -> x.bezout(r, 1, 3, 3));
            refused("bezout b = " + r + " and s = t", INDEX, x -> x.bezout(0, r, 3, 3));
            refused("bezout s = t = " + r, INDEX, x -> x.bezout(0, 1, r, r));
        }
        for (int r = 0; r <= 9; r++) {
            int same = r;
            refused("bezout into one", ARGUMENT, x -> x.bezout(0, 1, same, same));
        }
    }

    /** power: registers are named ahead of n, this ahead of m = 0. */
    private static void power() {
        for (int r : NO_REGISTERS) {
            for (int n : new int[] {-1, 2, 1000001}) {
                refused("power a = " + r, INDEX, x -> x.power(r, n, 7, 3));
                refused("power m = " + r, INDEX, x -> x.power(0, n, r, 3));
                refused("power to = " + r, INDEX, x -> x.power(0, n, 7, r));
            }
        }
        for (int n : new int[] {LEAST, -1, 1000001, 1000002, GREATEST}) {
            refused("power n = " + n + ", m = 0", ARGUMENT, x -> x.power(0, n, 7, 3));
            busyRefuses("power n = " + n, ARGUMENT, x -> x.power(0, n, 1, 3));
        }
        for (int n : new int[] {0, 1, 2, 1000000}) {
            refused("power m = 0, n = " + n, STATE, x -> x.power(0, n, 7, 3));
        }
    }

    /** "if one of the registers is not 0 to 9" */
    private static void resultant() {
        for (int r : NO_REGISTERS) {
            refused("resultant a = " + r, INDEX, x -> x.resultant(r, 7));
            refused("resultant b = " + r, INDEX, x -> x.resultant(7, r));
        }
    }

    /** point: x and y are named ahead of the 25 points. */
    private static void point() {
        for (int c : new int[] {LEAST, -97, -1, 97, 98, GREATEST}) {
            refused("point(" + c + ", 0)", ARGUMENT, x -> x.point(c, 0));
            refused("point(0, " + c + ")", ARGUMENT, x -> x.point(0, c));
            refused("point(" + c + ", " + c + ")", ARGUMENT, x -> x.point(c, c));
            fullRefuses("point(96, " + c + "), there", ARGUMENT, x -> x.point(96, c));
        }
        busyRefuses("point(7, 0)", ARGUMENT, x -> x.point(7, 0));
        busyRefuses("point(0, 7)", ARGUMENT, x -> x.point(0, 7));
        for (int at : new int[] {0, 1, 70, 71}) {
            fullRefuses("a 26th point", STATE, x -> x.point(at, 5));
        }
    }

    /** "if a is not 0 to 9, or index is not 0 to 96" */
    private static void root() {
        for (int r : NO_REGISTERS) {
            for (int index : new int[] {-1, 0, 96, 97}) {
                refused("root(" + r + ", " + index + ")", INDEX, x -> x.root(r, index));
            }
        }
        for (int index : new int[] {LEAST, -1, 97, GREATEST}) {
            refused("root(0, " + index + ")", INDEX, x -> x.root(0, index));
            refused("root(7, " + index + ") of 0", INDEX, x -> x.root(7, index));
        }
    }

    /** factor: "if it is 0" */
    private static void factor() {
        refused("factor of 0", STATE, x -> x.factor(7));
    }

    /** "if there is no such factor, or what is not 0 to 1", "if there is no such factor, or to is not 0 to 9" */
    private static void factors() {
        for (int index : new int[] {LEAST, -1, 24, 25, GREATEST}) {
            for (int what : new int[] {-1, 0, 1, 2}) {
                refused("part(" + index + ", " + what + ")", INDEX, x -> x.part(index, what));
            }
            for (int to : new int[] {-1, 0, 9, 10}) {
                refused("take(" + index + ", " + to + ")", INDEX, x -> x.take(index, to));
            }
        }
        for (int what : new int[] {LEAST, -1, 2, GREATEST}) {
            refused("part(0, " + what + ")", INDEX, x -> x.part(0, what));
        }
        for (int to : NO_REGISTERS) {
            refused("take(0, " + to + ")", INDEX, x -> x.take(0, to));
        }
        for (int what = 0; what <= 1; what++) {
            int kind = what;
            Check.refuses("part of none", INDEX, PolyLathe::new, x -> x.part(0, kind));
            busyRefuses("part of a third of two", INDEX, x -> x.part(2, kind));
        }
        Check.refuses("take of none", INDEX, PolyLathe::new, x -> x.take(0, 0));
        busyRefuses("take of a third of two", INDEX, x -> x.take(2, 0));
    }

    /** A refused call can be made again and again; what is allowed behind it is answered as ever. */
    private static void twice() {
        PolyLathe x = Bench.busy();
        for (int i = 0; i < 3; i++) {
            Check.raises(x, "again", STATE, () -> x.reckon(2, 0, 1, 4));
            Check.raises(x, "again", INDEX, () -> x.take(2, 0));
        }
        Check.due("what is allowed behind it", x.reckon(2, 0, 2, 4), 24);
        Check.dueText("its answer", Check.written(x, 4), "5x^24+x+5");
    }

    public static void main(String[] args) {
        begin();
        feed();
        trim();
        oneRegister();
        powersOfX();
        placesAndCounts();
        reckon();
        divide();
        bezout();
        power();
        resultant();
        point();
        root();
        factor();
        factors();
        twice();
        Check.end("RefusedTest");
    }
}
