import java.nio.charset.StandardCharsets;
import java.util.Random;

/** Long runs of calls, right ones and wrong ones, on PolyLathe and on Model: both have to answer alike. */
public final class ModelTest {
    private static final int[] PRIMES = {2, 3, 5, 7, 11, 13, 17, 19, 23, 29, 31, 37, 41, 43, 47, 53, 59, 61, 67, 71, 73, 79, 83, 89, 97};
    private static final int RUNS = 1000;
    /** An object may be called 512 times; what one step of a run makes are fewer than 80 calls. */
    private static final int LAST_STEP = 430;

    private interface Call {
        long run();
    }

    private final Random random;
    private final int run;
    private final PolyLathe lathe = new PolyLathe();
    private final Model model = new Model();
    private int calls = 0;

    private ModelTest(int run) {
        this.run = run;
        random = new Random(run);
    }

    private int upTo(int most) {
        return random.nextInt(most + 1);
    }

    private int register() {
        return random.nextInt(60) == 0 ? random.nextInt(2) * 11 - 1 : random.nextInt(10);
    }

    private static String outcome(Call call) {
        try {
            return "" + call.run();
        } catch (RuntimeException e) {
            return e.getClass().getSimpleName();
        }
    }

    private void both(String what, Call ours, Call theirs) {
        calls += 2;
        Check.dueText("run " + run + ": " + what, outcome(ours), outcome(theirs));
        Check.due("run " + run + ": digest behind " + what, lathe.digest(), model.digest());
    }

    private String text(int depth) {
        StringBuilder t = new StringBuilder(product(depth));
        for (int i = upTo(3); i > 1; i--) {
            t.append(random.nextBoolean() ? "+" : "-").append(product(depth));
        }
        return t.toString();
    }

    private String product(int depth) {
        StringBuilder t = new StringBuilder(signed(depth));
        for (int i = upTo(4); i > 2; i--) {
            t.append("*").append(signed(depth));
        }
        return t.toString();
    }

    private String signed(int depth) {
        if (random.nextInt(6) == 0) {
            return "-" + signed(depth - 1);
        }
        String base;
        switch (random.nextInt(depth > 0 ? 5 : 3)) {
            case 0:
                base = "" + random.nextInt(random.nextInt(5) == 0 ? 10000 : 20);
                break;
            case 1:
                base = "x";
                break;
            case 2:
                base = "r" + random.nextInt(10);
                break;
            default:
                base = "(" + text(depth - 1) + ")";
        }
        if (random.nextInt(3) == 0) {
            base += "^" + (random.nextInt(8) == 0 ? random.nextInt(10000) : random.nextInt(5));
        }
        return base;
    }

    private String spoiled(String text) {
        StringBuilder t = new StringBuilder(text);
        for (int i = upTo(3); i > 1; i--) {
            t.insert(upTo(t.length()), ' ');
        }
        if (random.nextInt(3) == 0) {
            String signs = "()+-*^xr0123456789 yX\0\u00b2";
            int at = upTo(t.length());
            if (random.nextBoolean() && at < t.length()) {
                t.deleteCharAt(at);
            } else {
                t.insert(at, signs.charAt(random.nextInt(signs.length())));
            }
        }
        if (random.nextInt(10) == 0) {
            t.setLength(upTo(t.length()));
        }
        return t.toString();
    }

    private void readSomething() {
        String t = spoiled(text(random.nextInt(9)));
        if (t.length() > 400) {
            t = t.substring(0, 400);
        }
        byte[] b = t.getBytes(StandardCharsets.ISO_8859_1);
        lathe.trim(0);
        model.trim(0);
        calls += 2 + b.length / 20;
        for (int i = 0; i < b.length; i += 20) {
            int[] f = {Check.four(b, i), Check.four(b, i + 4), Check.four(b, i + 8), Check.four(b, i + 12), Check.four(b, i + 16)};
            Check.due("feed", lathe.feed(f[0], f[1], f[2], f[3], f[4]), model.feed(f));
        }
        both("trim", () -> lathe.trim(b.length), () -> model.trim(b.length));
        int r = register();
        String shown = t;
        both("read(" + r + ") of " + shown, () -> lathe.read(r), () -> model.read(r));
        both("errorAt of " + shown, () -> lathe.errorAt(), () -> model.errorAt());
    }

    private void fill() {
        int r = random.nextInt(10);
        int high = random.nextInt(4) == 0 ? 24 : upTo(9);
        boolean thin = random.nextBoolean();
        for (int k = 0; k <= 24; k++) {
            int c = k > high || (thin && random.nextInt(3) > 0) ? 0 : random.nextInt();
            if (c != 0 || model.coefficient(r, k) != 0) {
                calls++;
                Check.due("set", lathe.set(r, k, c), model.set(r, k, c));
            }
        }
    }

    private void multiplySome() {
        int to = random.nextInt(10);
        calls++;
        lathe.set(to, 0, 1);
        model.set(to, 0, 1);
        for (int i = 0; i < 4; i++) {
            int a = random.nextInt(10);
            int b = random.nextInt(3) == 0 ? a : to;
            both("reckon(2, " + a + ", " + b + ", " + to + ")", () -> lathe.reckon(2, a, b, to), () -> model.reckon(2, a, b, to));
        }
    }

    private void step() {
        int a = register();
        int b = register();
        int c = register();
        int d = register();
        int n = random.nextInt(20) == 0 ? random.nextInt() : random.nextInt(30) == 0 ? -1 : upTo(24);
        int m = random.nextInt(40) == 0 ? random.nextInt() : random.nextInt(40) == 0 ? -1 : upTo(model.p);
        String names = a + ", " + b + ", " + c + ", " + d + ", " + n + ", " + m;
        switch (random.nextInt(26)) {
            case 0:
                int p = random.nextInt(3) == 0 ? random.nextInt(110) - 5 : PRIMES[random.nextInt(random.nextBoolean() ? 4 : PRIMES.length)];
                if (random.nextInt(8) == 0) {
                    both("begin " + p, () -> lathe.begin(p), () -> model.begin(p));
                }
                break;
            case 1:
            case 2:
            case 3:
                readSomething();
                break;
            case 4:
                both("set " + names, () -> lathe.set(a, n, m), () -> model.set(a, n, m));
                break;
            case 5:
                both("coefficient " + names, () -> lathe.coefficient(a, n), () -> model.coefficient(a, n));
                break;
            case 6:
                both("write " + names, () -> lathe.write(a), () -> model.write(a));
                both("byteAt " + names, () -> lathe.byteAt(n), () -> model.byteAt(n));
                break;
            case 7:
                both("count " + names, () -> lathe.count(a), () -> model.count(a));
                both("degree " + names, () -> lathe.degree(a), () -> model.degree(a));
                break;
            case 8:
            case 9:
            case 10:
                int sort = random.nextInt(30) == 0 ? random.nextInt(2) * 8 - 1 : random.nextInt(7);
                both("reckon " + sort + ", " + names, () -> lathe.reckon(sort, a, b, c), () -> model.reckon(sort, a, b, c));
                break;
            case 11:
                both("divide " + names, () -> lathe.divide(a, b, c, d), () -> model.divide(a, b, c, d));
                break;
            case 12:
                both("bezout " + names, () -> lathe.bezout(a, b, c, d), () -> model.bezout(a, b, c, d));
                break;
            case 13:
                int e = random.nextBoolean() ? n : random.nextInt(1000002);
                both("power " + e + ", " + names, () -> lathe.power(a, e, b, c), () -> model.power(a, e, b, c));
                break;
            case 14:
                both("value " + names, () -> lathe.value(a, m), () -> model.value(a, m));
                break;
            case 15:
                both("resultant " + names, () -> lathe.resultant(a, b), () -> model.resultant(a, b));
                break;
            case 16:
                for (int i = upTo(12); i >= 0; i--) {
                    int x = upTo(model.p);
                    int y = random.nextInt(20) == 0 ? -1 : upTo(model.p);
                    both("point " + x + ", " + y, () -> lathe.point(x, y), () -> model.point(x, y));
                }
                break;
            case 17:
                if (random.nextInt(4) == 0) {
                    both("clearPoints", () -> lathe.clearPoints(), () -> model.clearPoints());
                }
                both("join " + names, () -> lathe.join(a), () -> model.join(a));
                break;
            case 18:
                for (int i = -1; i < 5; i++) {
                    int index = i * (random.nextInt(10) == 0 ? 30 : 1);
                    both("root " + index + ", " + names, () -> lathe.root(a, index), () -> model.root(a, index));
                }
                break;
            case 19:
            case 20:
                both("factor " + names, () -> lathe.factor(a), () -> model.factor(a));
                for (int i = -1; i < 4; i++) {
                    int index = i;
                    both("part " + index + ", " + names, () -> lathe.part(index, n & 1), () -> model.part(index, n & 1));
                }
                both("part " + names, () -> lathe.part(0, n), () -> model.part(0, n));
                break;
            case 21:
                both("take " + names, () -> lathe.take(b, a), () -> model.take(b, a));
                break;
            case 22:
                both("isIrreducible " + names, () -> lathe.isIrreducible(a) ? 1 : 0, () -> model.isIrreducible(a) ? 1 : 0);
                break;
            case 23:
                both("period " + names, () -> lathe.period(a), () -> model.period(a));
                break;
            case 24:
                calls++;
                Check.dueReal("meanDegree", lathe.meanDegree(), model.meanDegree());
                multiplySome();
                break;
            default:
                fill();
        }
    }

    public static void main(String[] args) {
        int runs = args.length > 0 ? Integer.parseInt(args[0]) : RUNS;
        for (int run = 0; run < runs; run++) {
            ModelTest test = new ModelTest(run);
            int first = test.random.nextBoolean() ? PRIMES[test.random.nextInt(PRIMES.length)] : 2 + test.random.nextInt(2);
            test.both("begin " + first, () -> test.lathe.begin(first), () -> test.model.begin(first));
            for (int i = 0; i < 4; i++) {
                test.fill();
            }
            while (test.calls < LAST_STEP && Check.wrong() < 20) {
                test.step();
            }
        }
        Check.end("ModelTest");
    }
}
