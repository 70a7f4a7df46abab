import java.math.BigInteger;
import java.util.ArrayList;
import java.util.Arrays;
import java.util.List;
import java.util.Random;
import java.util.TreeMap;

/** The document once more, in other ways than PolyLathe's, to compare long runs with. */
final class Model {
    /** The reading found an operation whose result is too great. */
    private static final class TooGreat extends RuntimeException {
        private static final long serialVersionUID = 1L;
        final int at;

        TooGreat(int at) {
            this.at = at;
        }
    }

    int p = 7;
    int[][] regs = new int[10][0];
    String tape = "";
    String paper = "";
    TreeMap<Integer, Integer> points = new TreeMap<>();
    List<int[]> primes = new ArrayList<>();
    List<Integer> times = new ArrayList<>();
    int errorAt = -1;
    private final Random random = new Random(5);

    private static void index(boolean fine) {
        if (!fine) {
            throw new IndexOutOfBoundsException();
        }
    }

    private static void argument(boolean fine) {
        if (!fine) {
            throw new IllegalArgumentException();
        }
    }

    private static void state(boolean fine) {
        if (!fine) {
            throw new IllegalStateException();
        }
    }

    private static void reg(int... rs) {
        for (int r : rs) {
            index(r >= 0 && r <= 9);
        }
    }

    // ---- polynomials: the coefficients from the power 0 on, the last one not 0

    private int mod(long c) {
        return (int) (((c % p) + p) % p);
    }

    private int inverse(int c) {
        return BigInteger.valueOf(c).modInverse(BigInteger.valueOf(p)).intValue();
    }

    private int pow(int c, int n) {
        return BigInteger.valueOf(c).modPow(BigInteger.valueOf(n), BigInteger.valueOf(p)).intValue();
    }

    static int deg(int[] a) {
        return a.length - 1;
    }

    private int[] neat(long[] a) {
        int n = a.length;
        while (n > 0 && mod(a[n - 1]) == 0) {
            n--;
        }
        int[] b = new int[n];
        for (int i = 0; i < n; i++) {
            b[i] = mod(a[i]);
        }
        return b;
    }

    int[] sum(int[] a, int[] b, int factor) {
        long[] c = new long[Math.max(a.length, b.length)];
        for (int i = 0; i < c.length; i++) {
            c[i] = (i < a.length ? a[i] : 0) + (long) factor * (i < b.length ? b[i] : 0);
        }
        return neat(c);
    }

    int[] product(int[] a, int[] b) {
        long[] c = new long[a.length + b.length];
        for (int i = 0; i < a.length; i++) {
            for (int k = 0; k < b.length; k++) {
                c[i + k] += a[i] * b[k];
            }
        }
        return neat(c);
    }

    int[] number(int c) {
        return neat(new long[] {c});
    }

    private int[] term(int c, int k) {
        long[] a = new long[k + 1];
        a[k] = c;
        return neat(a);
    }

    int[][] quotient(int[] a, int[] b) {
        int[] q = new int[0];
        int[] r = a;
        while (r.length >= b.length) {
            int[] t = term(r[deg(r)] * inverse(b[deg(b)]), deg(r) - deg(b));
            q = sum(q, t, 1);
            r = sum(r, product(t, b), -1);
        }
        return new int[][] {q, r};
    }

    int[] rest(int[] a, int[] b) {
        return quotient(a, b)[1];
    }

    int[] monic(int[] a) {
        return a.length == 0 ? a : product(a, number(inverse(a[deg(a)])));
    }

    int[] gcd(int[] a, int[] b) {
        return b.length == 0 ? monic(a) : gcd(b, rest(a, b));
    }

    private int[] powerBy(int[] a, BigInteger n, int[] m) {
        int[] c = rest(number(1), m);
        for (int bit = n.bitLength() - 1; bit >= 0; bit--) {
            c = rest(product(c, c), m);
            if (n.testBit(bit)) {
                c = rest(product(c, a), m);
            }
        }
        return c;
    }

    private int at(int[] a, int x) {
        int sum = 0;
        for (int k = 0; k < a.length; k++) {
            sum = mod(sum + a[k] * (long) pow(x, k));
        }
        return sum;
    }

    /** The factors of degree d are what x^(p^d) - x and the polynomial have in common, once all smaller ones are out. */
    private void takeApart(int[] whole) {
        int[] f = monic(whole);
        for (int d = 1; deg(f) > 0; d++) {
            int[] x = new int[] {0, 1};
            int[] h = powerBy(x, BigInteger.valueOf(p).pow(d), f);
            int[] common = gcd(f, sum(h, x, -1));
            List<int[]> found = new ArrayList<>();
            splitEqual(common, d, found);
            found.sort(Model::compare);
            for (int[] q : found) {
                int n = 0;
                while (rest(f, q).length == 0) {
                    f = quotient(f, q)[0];
                    n++;
                }
                primes.add(q);
                times.add(n);
            }
        }
    }

    private void splitEqual(int[] f, int d, List<int[]> found) {
        if (deg(f) < 1) {
            return;
        }
        if (deg(f) == d) {
            found.add(f);
            return;
        }
        while (true) {
            long[] draft = new long[deg(f)];
            for (int i = 0; i < draft.length; i++) {
                draft[i] = random.nextInt(p);
            }
            int[] t = neat(draft);
            int[] u;
            if (p == 2) {
                u = t;
                int[] square = t;
                for (int i = 1; i < d; i++) {
                    square = rest(product(square, square), f);
                    u = sum(u, square, 1);
                }
            } else {
                u = powerBy(t, BigInteger.valueOf(p).pow(d).subtract(BigInteger.ONE).shiftRight(1), f);
                u = sum(u, number(1), -1);
            }
            int[] g = gcd(f, u);
            if (deg(g) > 0 && deg(g) < deg(f)) {
                splitEqual(g, d, found);
                splitEqual(quotient(f, g)[0], d, found);
                return;
            }
        }
    }

    static int compare(int[] a, int[] b) {
        if (a.length != b.length) {
            return a.length - b.length;
        }
        for (int k = a.length - 1; k >= 0; k--) {
            if (a[k] != b[k]) {
                return a[k] - b[k];
            }
        }
        return 0;
    }

    /** The determinant of Sylvester's matrix. */
    private int determinant(int[] a, int[] b) {
        int n = deg(a) + deg(b);
        int[][] m = new int[n][n];
        for (int line = 0; line < n; line++) {
            int[] f = line < deg(b) ? a : b;
            int shift = line < deg(b) ? line : line - deg(b);
            for (int k = 0; k < f.length; k++) {
                m[line][shift + k] = f[deg(f) - k];
            }
        }
        int result = 1;
        for (int c = 0; c < n; c++) {
            int line = c;
            while (line < n && m[line][c] == 0) {
                line++;
            }
            if (line == n) {
                return 0;
            }
            if (line != c) {
                int[] held = m[line];
                m[line] = m[c];
                m[c] = held;
                result = mod(-result);
            }
            result = mod(result * m[c][c]);
            for (int i = c + 1; i < n; i++) {
                int times = mod(m[i][c] * inverse(m[c][c]));
                for (int k = c; k < n; k++) {
                    m[i][k] = mod(m[i][k] - times * m[c][k]);
                }
            }
        }
        return mod(result);
    }

    // ---- texts: a row of states with a pile of "(" and "-", and a pile of waiting operations

    private static boolean digit(String t, int i) {
        return i < t.length() && t.charAt(i) >= '0' && t.charAt(i) <= '9';
    }

    /** The position of the error 1, or -1. */
    static int syntax(String t) {
        StringBuilder pile = new StringBuilder();
        boolean operand = true;
        boolean caret = false;
        int i = 0;
        while (true) {
            while (i < t.length() && t.charAt(i) == ' ') {
                i++;
            }
            char c = i < t.length() ? t.charAt(i) : 0;
            boolean end = i >= t.length();
            if (operand) {
                if (!end && (c == '-' || c == '(')) {
                    if (pile.length() == 8) {
                        return i;
                    }
                    pile.append(c);
                    i++;
                    continue;
                }
                if (digit(t, i)) {
                    for (int n = 0; digit(t, i); n++, i++) {
                        if (n == 4) {
                            return i;
                        }
                    }
                } else if (!end && c == 'x') {
                    i++;
                } else if (!end && c == 'r') {
                    i++;
                    while (i < t.length() && t.charAt(i) == ' ') {
                        i++;
                    }
                    if (!digit(t, i)) {
                        return i;
                    }
                    i++;
                } else {
                    return i;
                }
                operand = false;
                caret = true;
                continue;
            }
            if (caret && !end && c == '^') {
                i++;
                while (i < t.length() && t.charAt(i) == ' ') {
                    i++;
                }
                if (!digit(t, i)) {
                    return i;
                }
                for (int n = 0; digit(t, i); n++, i++) {
                    if (n == 4) {
                        return i;
                    }
                }
                caret = false;
                continue;
            }
            while (pile.length() > 0 && pile.charAt(pile.length() - 1) == '-') {
                pile.setLength(pile.length() - 1);
            }
            if (end) {
                return pile.length() == 0 ? -1 : i;
            }
            if (c == '*' || c == '+' || c == '-') {
                operand = true;
            } else if (c == ')' && pile.length() > 0) {
                pile.setLength(pile.length() - 1);
                caret = true;
            } else {
                return i;
            }
            i++;
        }
    }

    private static int rank(int op) {
        return op == '~' ? 3 : op == '*' ? 2 : op == '(' ? 0 : 1;
    }

    private void work(List<int[]> values, List<int[]> ops) {
        int[] op = ops.remove(ops.size() - 1);
        int[] b = values.remove(values.size() - 1);
        if (op[0] == '~') {
            values.add(product(b, number(-1)));
            return;
        }
        int[] a = values.remove(values.size() - 1);
        if (op[0] == '*') {
            int[] c = product(a, b);
            if (deg(c) > 24) {
                throw new TooGreat(op[1]);
            }
            values.add(c);
        } else {
            values.add(sum(a, b, op[0] == '+' ? 1 : -1));
        }
    }

    /** The value of a text without an error 1. */
    private int[] reckoned(String t) {
        List<int[]> values = new ArrayList<>();
        List<int[]> ops = new ArrayList<>();
        boolean operand = true;
        for (int i = 0; i < t.length(); i++) {
            char c = t.charAt(i);
            if (c == ' ') {
                continue;
            }
            if (operand && (c == '-' || c == '(')) {
                ops.add(new int[] {c == '-' ? '~' : '(', i});
            } else if (operand) {
                if (c == 'x') {
                    values.add(new int[] {0, 1});
                } else if (c == 'r') {
                    do {
                        i++;
                    } while (t.charAt(i) == ' ');
                    values.add(regs[t.charAt(i) - '0']);
                } else {
                    int from = i;
                    while (digit(t, i + 1)) {
                        i++;
                    }
                    values.add(number(Integer.parseInt(t.substring(from, i + 1))));
                }
                operand = false;
            } else if (c == '^') {
                int caret = i;
                do {
                    i++;
                } while (t.charAt(i) == ' ');
                int from = i;
                while (digit(t, i + 1)) {
                    i++;
                }
                int n = Integer.parseInt(t.substring(from, i + 1));
                values.add(raised(values.remove(values.size() - 1), n, caret));
            } else if (c == ')') {
                while (ops.get(ops.size() - 1)[0] != '(') {
                    work(values, ops);
                }
                ops.remove(ops.size() - 1);
            } else {
                while (!ops.isEmpty() && rank(ops.get(ops.size() - 1)[0]) >= rank(c)) {
                    work(values, ops);
                }
                ops.add(new int[] {c, i});
                operand = true;
            }
        }
        while (!ops.isEmpty()) {
            work(values, ops);
        }
        return values.get(0);
    }

    private int[] raised(int[] a, int n, int caret) {
        int[] c = number(1);
        for (int i = 0; i < n; i++) {
            c = product(c, a);
            if (deg(c) > 24) {
                throw new TooGreat(caret);
            }
        }
        return c;
    }

    // ---- the face

    int begin(int q) {
        argument(q >= 2 && q <= 97 && BigInteger.valueOf(q).isProbablePrime(50));
        int before = p;
        p = q;
        regs = new int[10][0];
        points.clear();
        primes.clear();
        times.clear();
        return before;
    }

    int feed(int... fours) {
        state(tape.length() + 20 <= 400);
        StringBuilder t = new StringBuilder(tape);
        for (int four : fours) {
            for (byte b : BigInteger.valueOf(four & 0xffffffffL | 1L << 32).toByteArray()) {
                t.append((char) (b & 255));
            }
            t.deleteCharAt(t.length() - 5);
        }
        tape = t.toString();
        return tape.length();
    }

    int trim(int n) {
        argument(n >= 0 && n <= tape.length());
        tape = tape.substring(0, n);
        return n;
    }

    int read(int r) {
        reg(r);
        String t = tape;
        tape = "";
        errorAt = syntax(t);
        if (errorAt >= 0) {
            return 1;
        }
        try {
            regs[r] = reckoned(t);
            return 0;
        } catch (TooGreat e) {
            errorAt = e.at;
            return 2;
        }
    }

    int errorAt() {
        return errorAt;
    }

    int set(int r, int k, int c) {
        reg(r);
        index(k >= 0 && k <= 24);
        long[] a = new long[25];
        for (int i = 0; i < 25; i++) {
            a[i] = i == k ? c : i < regs[r].length ? regs[r][i] : 0;
        }
        regs[r] = neat(a);
        return deg(regs[r]);
    }

    int coefficient(int r, int k) {
        reg(r);
        index(k >= 0 && k <= 24);
        return k < regs[r].length ? regs[r][k] : 0;
    }

    int degree(int r) {
        reg(r);
        return deg(regs[r]);
    }

    int write(int r) {
        reg(r);
        List<String> terms = new ArrayList<>();
        for (int k = deg(regs[r]); k >= 0; k--) {
            int c = regs[r][k];
            if (c != 0) {
                terms.add((c == 1 && k > 0 ? "" : "" + c) + (k == 0 ? "" : k == 1 ? "x" : "x^" + k));
            }
        }
        paper = terms.isEmpty() ? "0" : String.join("+", terms);
        return paper.length();
    }

    int byteAt(int k) {
        index(k >= 0 && k < paper.length());
        return paper.charAt(k);
    }

    int count(int what) {
        index(what >= 0 && what <= 4);
        return new int[] {p, tape.length(), paper.length(), points.size(), primes.size()}[what];
    }

    int reckon(int sort, int a, int b, int to) {
        argument(sort >= 0 && sort <= 6);
        reg(a, b, to);
        int[] x = regs[a];
        int[] y = regs[b];
        int[] z = new int[0];
        switch (sort) {
            case 0:
                z = sum(x, y, 1);
                break;
            case 1:
                z = sum(x, y, -1);
                break;
            case 2:
                z = product(x, y);
                break;
            case 3:
                int[] power = number(1);
                for (int k = 0; k < x.length; k++) {
                    z = sum(z, power, x[k]);
                    power = product(power, y);
                }
                break;
            case 4:
                z = gcd(x, y);
                break;
            case 5:
                for (int k = 1; k < x.length; k++) {
                    z = sum(z, term(k * x[k], k - 1), 1);
                }
                break;
            default:
                z = monic(x);
        }
        state(deg(z) <= 24);
        regs[to] = z;
        return deg(z);
    }

    int divide(int a, int b, int q, int r) {
        reg(a, b, q, r);
        argument(q != r);
        state(regs[b].length > 0);
        int[][] both = quotient(regs[a], regs[b]);
        regs[q] = both[0];
        regs[r] = both[1];
        return deg(both[1]);
    }

    int bezout(int a, int b, int s, int t) {
        reg(a, b, s, t);
        argument(s != t);
        int[][] row = euclid(new int[][] {regs[a], number(1), new int[0]}, new int[][] {regs[b], new int[0], number(1)});
        int c = row[0].length == 0 ? 1 : inverse(row[0][deg(row[0])]);
        regs[s] = product(row[1], number(c));
        regs[t] = product(row[2], number(c));
        return deg(row[0]);
    }

    private int[][] euclid(int[][] row, int[][] next) {
        if (next[0].length == 0) {
            return row;
        }
        int[] q = quotient(row[0], next[0])[0];
        int[][] later = new int[3][];
        for (int i = 0; i < 3; i++) {
            later[i] = sum(row[i], product(q, next[i]), -1);
        }
        return euclid(next, later);
    }

    int power(int a, int n, int m, int to) {
        reg(a, m, to);
        argument(n >= 0 && n <= 1000000);
        state(regs[m].length > 0);
        regs[to] = powerBy(regs[a], BigInteger.valueOf(n), regs[m]);
        return deg(regs[to]);
    }

    int value(int a, int x) {
        reg(a);
        return at(regs[a], mod(x));
    }

    int resultant(int a, int b) {
        reg(a, b);
        return regs[a].length == 0 || regs[b].length == 0 ? 0 : determinant(regs[a], regs[b]);
    }

    int point(int x, int y) {
        argument(x >= 0 && x < p && y >= 0 && y < p);
        state(points.size() < 25 || points.containsKey(x));
        points.put(x, y);
        return points.size();
    }

    int clearPoints() {
        int n = points.size();
        points.clear();
        return n;
    }

    /** Lagrange's way. */
    int join(int to) {
        reg(to);
        int[] sum = new int[0];
        for (int x : points.keySet()) {
            int[] base = number(points.get(x));
            for (int z : points.keySet()) {
                if (z != x) {
                    base = product(base, sum(product(new int[] {0, 1}, number(1)), number(z), -1));
                    base = product(base, number(inverse(mod(x - z))));
                }
            }
            sum = sum(sum, base, 1);
        }
        regs[to] = sum;
        return deg(sum);
    }

    int root(int a, int index) {
        reg(a);
        index(index >= 0 && index <= 96);
        int[] zeros = java.util.stream.IntStream.range(0, p).filter(x -> at(regs[a], x) == 0).toArray();
        return index < zeros.length ? zeros[index] : -1;
    }

    int factor(int a) {
        reg(a);
        state(regs[a].length > 0);
        primes.clear();
        times.clear();
        takeApart(regs[a]);
        return primes.size();
    }

    int part(int index, int what) {
        index(index >= 0 && index < primes.size() && what >= 0 && what <= 1);
        return what == 0 ? deg(primes.get(index)) : times.get(index);
    }

    int take(int index, int to) {
        index(index >= 0 && index < primes.size());
        reg(to);
        regs[to] = primes.get(index);
        return deg(regs[to]);
    }

    /** Rabin's test. */
    boolean isIrreducible(int a) {
        reg(a);
        int[] f = regs[a];
        int n = deg(f);
        if (n < 1) {
            return false;
        }
        int[] x = new int[] {0, 1};
        for (int d = 1; d < n; d++) {
            if (n % d == 0) {
                int[] h = powerBy(x, BigInteger.valueOf(p).pow(d), f);
                if (deg(gcd(f, sum(h, x, -1))) > 0) {
                    return false;
                }
            }
        }
        return rest(sum(powerBy(x, BigInteger.valueOf(p).pow(n), f), x, -1), f).length == 0;
    }

    int period(int a) {
        reg(a);
        int[] f = regs[a];
        if (f.length == 0) {
            return -1;
        }
        int[] h = number(1);
        for (int n = 1; n <= 3000; n++) {
            h = rest(product(h, new int[] {0, 1}), f);
            if (rest(sum(h, number(1), -1), f).length == 0) {
                return n;
            }
        }
        return -1;
    }

    double meanDegree() {
        return Arrays.stream(regs).filter(a -> a.length > 0).mapToInt(Model::deg).average().orElse(0.0);
    }

    long digest() {
        List<Integer> all = new ArrayList<>();
        for (int what = 0; what < 5; what++) {
            all.add(count(what));
        }
        for (int[] a : regs) {
            all.add(deg(a));
            Arrays.stream(a).forEach(all::add);
        }
        points.forEach((x, y) -> all.addAll(List.of(x, y)));
        for (int i = 0; i < primes.size(); i++) {
            all.add(deg(primes.get(i)));
            all.add(times.get(i));
            Arrays.stream(primes.get(i)).forEach(all::add);
        }
        paper.chars().forEach(all::add);
        long d = 443;
        for (int x : all) {
            d = d * 31 + x;
        }
        return d;
    }
}
