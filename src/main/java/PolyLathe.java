import java.util.Arrays;

/** A workbench for polynomials over a field with p elements. */
public final class PolyLathe {
    private static final int REGISTERS = 10;
    private static final int TOP = 24;
    private static final int FIRST_P = 7;
    private static final int LARGEST_P = 97;
    private static final int TAPE_ROOM = 400;
    private static final int FEED_BYTES = 20;
    /** The longest polynomial takes 159 bytes: 25 terms like 96x^24 and 24 signs. */
    private static final int PAPER_ROOM = 160;
    private static final int DEEPEST = 8;
    private static final int LONGEST_NUMBER = 4;
    private static final int MOST_POINTS = 25;
    private static final int COUNTS = 5;
    private static final int SORTS = 7;
    private static final int GREATEST_EXPONENT = 1000000;
    private static final int LONGEST_PERIOD = 3000;
    /** Stands far above the turns that Euclid's way or a factoring can need (about 30). */
    private static final int MOST_TURNS = 1000;
    private static final int NONE = -1;

    private final Field field;
    private final Poly[] registers;
    private final Text tape;
    private final Text paper;
    private final Reader reader;
    private final Points points;
    private final Euclid euclid;
    private final Splitter splitter;
    private final Poly answer;
    private final Poly second;
    private final Poly work;

    public PolyLathe() {
        field = new Field();
        registers = new Poly[REGISTERS];
        for (int r = 0; r < registers.length; r++) {
            registers[r] = new Poly(field);
        }
        tape = new Text(TAPE_ROOM);
        paper = new Text(PAPER_ROOM);
        reader = new Reader(field, tape, registers);
        points = new Points(field);
        euclid = new Euclid(field);
        splitter = new Splitter(field, euclid);
        answer = new Poly(field);
        second = new Poly(field);
        work = new Poly(field);
    }

    // ---- numbers and texts

    public int begin(int p) throws IllegalArgumentException {
        if (!isFieldSize(p)) {
            throw new IllegalArgumentException("p is not a prime from 2 to 97");
        }
        int before = field.p();
        field.choose(p);
        for (int r = 0; r < registers.length; r++) {
            registers[r].clear();
        }
        points.clear();
        splitter.forget();
        return before;
    }

    public int feed(int a, int b, int c, int d, int e) throws IllegalStateException {
        if (tape.size() + FEED_BYTES > TAPE_ROOM) {
            throw new IllegalStateException("the tape would be too long");
        }
        tape.appendFour(a);
        tape.appendFour(b);
        tape.appendFour(c);
        tape.appendFour(d);
        tape.appendFour(e);
        return tape.size();
    }

    public int trim(int n) throws IllegalArgumentException {
        if (n < 0 || n > tape.size()) {
            throw new IllegalArgumentException("the tape has not so many bytes");
        }
        tape.cut(n);
        return n;
    }

    public int read(int r) throws IndexOutOfBoundsException {
        return reader.readInto(register(r));
    }

    public int errorAt() {
        return reader.wrongPlace();
    }

    public int set(int r, int k, int c) throws IndexOutOfBoundsException {
        Poly target = register(r);
        checkExponent(k);
        target.put(k, field.rest(c));
        return target.high();
    }

    public int coefficient(int r, int k) throws IndexOutOfBoundsException {
        Poly source = register(r);
        checkExponent(k);
        return source.at(k);
    }

    public int degree(int r) throws IndexOutOfBoundsException {
        return register(r).high();
    }

    public int write(int r) throws IndexOutOfBoundsException {
        paper.show(register(r));
        return paper.size();
    }

    public int byteAt(int k) throws IndexOutOfBoundsException {
        if (k < 0 || k >= paper.size()) {
            throw new IndexOutOfBoundsException("no such place on the paper");
        }
        return paper.at(k);
    }

    public int count(int what) throws IndexOutOfBoundsException {
        if (what < 0 || what >= COUNTS) {
            throw new IndexOutOfBoundsException("no such count");
        }
        return tally(what);
    }

    // ---- reckoning

    public int reckon(int sort, int a, int b, int to)
            throws IllegalArgumentException, IndexOutOfBoundsException, IllegalStateException {
        if (sort < 0 || sort >= SORTS) {
            throw new IllegalArgumentException("no such sort");
        }
        Poly left = register(a);
        Poly right = register(b);
        Poly target = register(to);
        if (isTooGreat(sort, left.high(), right.high())) {
            throw new IllegalStateException("the degree would be greater than 24");
        }
        combine(sort, left, right);
        target.become(answer);
        return target.high();
    }

    public int divide(int a, int b, int q, int r)
            throws IndexOutOfBoundsException, IllegalArgumentException, IllegalStateException {
        Poly dividend = register(a);
        Poly divisor = register(b);
        Poly quotientTarget = register(q);
        Poly restTarget = register(r);
        if (q == r) {
            throw new IllegalArgumentException("quotient and remainder need two registers");
        }
        if (divisor.isZero()) {
            throw new IllegalStateException("the divisor is 0");
        }
        answer.become(dividend);
        work.clear();
        answer.reduce(divisor, work);
        quotientTarget.become(work);
        restTarget.become(answer);
        return restTarget.high();
    }

    public int bezout(int a, int b, int s, int t)
            throws IndexOutOfBoundsException, IllegalArgumentException {
        Poly left = register(a);
        Poly right = register(b);
        Poly firstTarget = register(s);
        Poly secondTarget = register(t);
        if (s == t) {
            throw new IllegalArgumentException("s and t need two registers");
        }
        euclid.walk(left, right);
        firstTarget.become(euclid.makerOfFirst());
        secondTarget.become(euclid.makerOfSecond());
        return euclid.common().high();
    }

    public int power(int a, int n, int m, int to)
            throws IndexOutOfBoundsException, IllegalArgumentException, IllegalStateException {
        Poly base = register(a);
        Poly modulus = register(m);
        Poly target = register(to);
        if (n < 0 || n > GREATEST_EXPONENT) {
            throw new IllegalArgumentException("n is not 0 to 1000000");
        }
        if (modulus.isZero()) {
            throw new IllegalStateException("m is 0");
        }
        raise(base, n, modulus);
        target.become(answer);
        return target.high();
    }

    public int value(int a, int x) throws IndexOutOfBoundsException {
        return register(a).valueAt(field.rest(x));
    }

    public int resultant(int a, int b) throws IndexOutOfBoundsException {
        Poly left = register(a);
        Poly right = register(b);
        return euclid.resultantOf(left, right);
    }

    // ---- points

    public int point(int x, int y) throws IllegalArgumentException, IllegalStateException {
        if (!field.has(x) || !field.has(y)) {
            throw new IllegalArgumentException("x or y is not 0 to p - 1");
        }
        if (points.size() >= MOST_POINTS && !points.has(x)) {
            throw new IllegalStateException("there are 25 points");
        }
        points.put(x, y);
        return points.size();
    }

    public int clearPoints() {
        int before = points.size();
        points.clear();
        return before;
    }

    public int join(int to) throws IndexOutOfBoundsException {
        Poly target = register(to);
        points.joinInto(target, work);
        return target.high();
    }

    // ---- parts

    public int root(int a, int index) throws IndexOutOfBoundsException {
        Poly source = register(a);
        if (index < 0 || index >= LARGEST_P) {
            throw new IndexOutOfBoundsException("index is not 0 to 96");
        }
        return rootOf(source, index);
    }

    public int factor(int a) throws IndexOutOfBoundsException, IllegalStateException {
        Poly source = register(a);
        if (source.isZero()) {
            throw new IllegalStateException("0 has no factors");
        }
        splitter.find(source);
        return splitter.size();
    }

    public int part(int index, int what) throws IndexOutOfBoundsException {
        checkFactor(index);
        if (what < 0 || what > 1) {
            throw new IndexOutOfBoundsException("what is not 0 to 1");
        }
        return what == 0 ? splitter.prime(index).high() : splitter.timesOf(index);
    }

    public int take(int index, int to) throws IndexOutOfBoundsException {
        checkFactor(index);
        Poly target = register(to);
        target.become(splitter.prime(index));
        return target.high();
    }

    public boolean isIrreducible(int a) throws IndexOutOfBoundsException {
        return splitter.isPrime(register(a));
    }

    public int period(int a) throws IndexOutOfBoundsException {
        return periodOf(register(a));
    }

    public double meanDegree() {
        int sum = 0;
        int filled = 0;
        for (int r = 0; r < registers.length; r++) {
            if (!registers[r].isZero()) {
                sum += registers[r].high();
                filled++;
            }
        }
        return filled == 0 ? 0.0 : (double) sum / (double) filled;
    }

    public long digest() {
        long d = 443;
        for (int what = 0; what < COUNTS; what++) {
            d = d * 31 + tally(what);
        }
        for (int r = 0; r < registers.length; r++) {
            d = registers[r].digestOn(d * 31 + registers[r].high());
        }
        d = points.digestOn(d);
        for (int i = 0; i < splitter.size(); i++) {
            Poly prime = splitter.prime(i);
            d = (d * 31 + prime.high()) * 31 + splitter.timesOf(i);
            d = prime.digestOn(d);
        }
        return paper.digestOn(d);
    }

    // ---- behind the face

    private Poly register(int r) {
        if (r < 0 || r >= registers.length) {
            throw new IndexOutOfBoundsException("no such register");
        }
        return registers[r];
    }

    private static void checkExponent(int k) {
        if (k < 0 || k > TOP) {
            throw new IndexOutOfBoundsException("no such power");
        }
    }

    private void checkFactor(int index) {
        if (index < 0 || index >= splitter.size()) {
            throw new IndexOutOfBoundsException("no such factor");
        }
    }

    private static boolean isFieldSize(int p) {
        if (p < 2 || p > LARGEST_P) {
            return false;
        }
        for (int d = 2; d < p; d++) {
            if (p % d == 0) {
                return false;
            }
        }
        return true;
    }

    private int tally(int what) {
        switch (what) {
            case 0:
                return field.p();
            case 1:
                return tape.size();
            case 2:
                return paper.size();
            case 3:
                return points.size();
            default:
                return splitter.size();
        }
    }

    private static boolean isTooGreat(int sort, int left, int right) {
        if (sort == 2) {
            return left >= 0 && right >= 0 && left + right > TOP;
        }
        return sort == 3 && left > 0 && right > 0 && left * right > TOP;
    }

    /** Puts what reckon asks for into the row named answer. */
    private void combine(int sort, Poly left, Poly right) {
        switch (sort) {
            case 0:
                answer.become(left);
                answer.addMultiple(right, 1, 0);
                break;
            case 1:
                answer.become(left);
                answer.subtract(right);
                break;
            case 2:
                answer.becomeProduct(left, right);
                break;
            case 3:
                compose(left, right);
                break;
            case 4:
                euclid.meet(left, right);
                answer.become(euclid.common());
                break;
            case 5:
                answer.becomeSlope(left);
                break;
            default:
                answer.become(left);
                answer.scale(field.inverse(answer.lead()));
                break;
        }
    }

    private void compose(Poly outer, Poly inner) {
        answer.clear();
        for (int k = outer.high(); k >= 0; k--) {
            work.becomeProduct(answer, inner);
            answer.become(work);
            answer.put(0, field.rest(answer.at(0) + outer.at(k)));
        }
    }

    private void raise(Poly base, int n, Poly modulus) {
        second.become(base);
        second.reduce(modulus, null);
        answer.becomeNumber(1);
        answer.reduce(modulus, null);
        for (int left = n; left > 0; left >>= 1) {
            if ((left & 1) == 1) {
                work.becomeProductBy(answer, second, modulus);
                answer.become(work);
            }
            work.becomeProductBy(second, second, modulus);
            second.become(work);
        }
    }

    private int rootOf(Poly source, int index) {
        int before = 0;
        for (int x = 0; x < field.p(); x++) {
            if (source.valueAt(x) == 0) {
                if (before == index) {
                    return x;
                }
                before++;
            }
        }
        return -1;
    }

    private int periodOf(Poly source) {
        if (source.high() == 0) {
            return 1;
        }
        // What x divides (0, too) divides no power of x, less 1.
        if (source.at(0) == 0) {
            return -1;
        }
        work.becomeNumber(1);
        for (int n = 1; n <= LONGEST_PERIOD; n++) {
            work.timesX(source);
            if (work.isOne()) {
                return n;
            }
        }
        return -1;
    }

    /** The numbers 0 to p - 1, reckoned by their remainder of p. */
    private static final class Field {
        private int p;
        private final int[] inverses = new int[LARGEST_P];

        Field() {
            choose(FIRST_P);
        }

        int p() {
            return p;
        }

        void choose(int newP) {
            p = newP;
            for (int c = 1; c < newP && c < inverses.length; c++) {
                for (int d = 1; d < newP; d++) {
                    if (c * d % newP == 1) {
                        inverses[c] = d;
                    }
                }
            }
        }

        boolean has(int c) {
            return c >= 0 && c < p;
        }

        /** The remainder of p, 0 to p - 1, also for numbers less than 0. */
        int rest(int c) {
            if (p < 2) {
                return 0;
            }
            int rest = c % p;
            return rest < 0 ? rest + p : rest;
        }

        int times(int a, int b) {
            return p < 2 ? 0 : a * b % p;
        }

        int minus(int c) {
            return c == 0 ? 0 : p - c;
        }

        int raise(int c, int n) {
            if (p < 2) {
                return 0;
            }
            int product = 1;
            int square = c;
            for (int left = n; left > 0; left >>= 1) {
                if ((left & 1) == 1) {
                    product = product * square % p;
                }
                square = square * square % p;
            }
            return product;
        }

        int inverse(int c) {
            return c < 0 || c >= inverses.length ? 0 : inverses[c];
        }
    }

    /** A polynomial; its degree is right behind every put. */
    private static final class Poly {
        private final Field field;
        private final int[] row = new int[TOP + 1];
        private int high = -1;

        Poly(Field field) {
            this.field = field;
        }

        int high() {
            return high;
        }

        boolean isZero() {
            return high < 0;
        }

        boolean isOne() {
            return high == 0 && at(0) == 1;
        }

        int at(int k) {
            return k < 0 || k >= row.length ? 0 : row[k];
        }

        int lead() {
            return high < 0 || high >= row.length ? 0 : row[high];
        }

        void put(int k, int c) {
            if (k < 0 || k >= row.length) {
                return;
            }
            row[k] = c;
            if (c != 0 && k > high) {
                high = k;
            }
            while (high >= 0 && high < row.length && row[high] == 0) {
                high--;
            }
        }

        void clear() {
            for (int k = 0; k < row.length; k++) {
                row[k] = 0;
            }
            high = -1;
        }

        void become(Poly other) {
            for (int k = 0; k < row.length && k < other.row.length; k++) {
                row[k] = other.row[k];
            }
            high = other.high;
        }

        void becomeNumber(int c) {
            clear();
            put(0, c);
        }

        /** Adds c * x^shift * other; with put and at this would be too slow, as nearly all is reckoned here. */
        void addMultiple(Poly other, int c, int shift) {
            int p = field.p;
            if (p < 2 || c == 0 || shift < 0) {
                return;
            }
            for (int k = 0; k <= other.high && k < other.row.length && k + shift < row.length; k++) {
                row[k + shift] = (row[k + shift] + c * other.row[k]) % p;
            }
            int top = high > other.high + shift ? high : other.high + shift;
            while (top >= 0 && (top >= row.length || row[top] == 0)) {
                top--;
            }
            high = top;
        }

        void subtract(Poly other) {
            addMultiple(other, field.minus(1), 0);
        }

        void scale(int c) {
            int top = high;
            for (int k = 0; k <= top; k++) {
                put(k, field.times(at(k), c));
            }
        }

        /** Neither a nor b may be this one, and the degree of the product is not too great. */
        void becomeProduct(Poly a, Poly b) {
            clear();
            for (int k = 0; k <= a.high; k++) {
                addMultiple(b, a.at(k), k);
            }
        }

        void becomeSlope(Poly a) {
            clear();
            for (int k = 1; k <= a.high; k++) {
                put(k - 1, field.times(k, a.at(k)));
            }
        }

        /** Leaves the remainder by the divisor here; the quotient is put into a row that is 0, unless it is null. */
        void reduce(Poly divisor, Poly quotient) {
            int inverse = field.inverse(divisor.lead());
            for (int shift = high - divisor.high; shift >= 0 && divisor.high >= 0; shift--) {
                int c = field.times(at(shift + divisor.high), inverse);
                if (quotient != null) {
                    quotient.put(shift, c);
                }
                addMultiple(divisor, field.minus(c), shift);
            }
        }

        /** Multiplies by x and takes the remainder by m; the degree is less than that of m ahead. */
        void timesX(Poly m) {
            for (int k = Math.min(high + 1, row.length - 1); k > 0; k--) {
                row[k] = row[k - 1];
            }
            row[0] = 0;
            high = high < 0 ? -1 : Math.min(high + 1, row.length - 1);
            int c = field.times(at(m.high), field.inverse(m.lead()));
            addMultiple(m, field.minus(c), 0);
        }

        /** The remainder of a * b by m; the degrees of a and b are less than that of m. */
        void becomeProductBy(Poly a, Poly b, Poly m) {
            clear();
            for (int k = b.high; k >= 0; k--) {
                timesX(m);
                addMultiple(a, b.at(k), 0);
            }
        }

        /** Multiplies by x - root; the power 25, for which there is no room, is left out. */
        void timesRoot(int root) {
            int c = field.minus(root);
            for (int k = high + 1; k >= 0; k--) {
                put(k, field.rest(at(k - 1) + c * at(k)));
            }
        }

        int valueAt(int x) {
            int p = field.p;
            int sum = 0;
            for (int k = high; k >= 0 && k < row.length && p >= 2; k--) {
                sum = (sum * x + row[k]) % p;
            }
            return sum;
        }

        boolean comesBefore(Poly other) {
            if (high != other.high) {
                return high < other.high;
            }
            for (int k = high; k >= 0; k--) {
                if (at(k) != other.at(k)) {
                    return at(k) < other.at(k);
                }
            }
            return false;
        }

        long digestOn(long d) {
            for (int k = 0; k <= high; k++) {
                d = d * 31 + at(k);
            }
            return d;
        }
    }

    /** A row of bytes, for the tape and for the paper. */
    private static final class Text {
        private final int[] bytes;
        private int size;

        Text(int room) {
            bytes = new int[Math.max(room, 0)];
        }

        int size() {
            return size;
        }

        int at(int k) {
            return k < 0 || k >= size || k >= bytes.length ? -1 : bytes[k];
        }

        void append(int b) {
            if (size >= 0 && size < bytes.length) {
                bytes[size] = b;
                size++;
            }
        }

        void appendFour(int four) {
            for (int shift = 24; shift >= 0; shift -= 8) {
                append((four >>> shift) & 255);
            }
        }

        void cut(int n) {
            size = n;
        }

        void show(Poly a) {
            cut(0);
            for (int k = a.high(); k >= 0; k--) {
                if (a.at(k) != 0) {
                    if (size > 0) {
                        append('+');
                    }
                    showTerm(a.at(k), k);
                }
            }
            if (size == 0) {
                append('0');
            }
        }

        private void showTerm(int c, int k) {
            if (c != 1 || k == 0) {
                showNumber(c);
            }
            if (k > 0) {
                append('x');
            }
            if (k > 1) {
                append('^');
                showNumber(k);
            }
        }

        private void showNumber(int n) {
            if (n >= 10) {
                append('0' + n / 10);
            }
            append('0' + n % 10);
        }

        long digestOn(long d) {
            for (int k = 0; k < size; k++) {
                d = d * 31 + at(k);
            }
            return d;
        }
    }

    /** Reads the tape as a sum; what is reckoned waits on a pile of polynomials. */
    private static final class Reader {
        private static final int END = -1;
        /** At each depth a sum and a product wait at most, and one more is on its way. */
        private static final int PILE = 2 * (DEEPEST + 1) + 1;

        private final Field field;
        private final Text tape;
        private final Poly[] registers;
        private final Poly[] pile = new Poly[PILE];
        private final Poly base;
        private final Poly work;
        private int height;
        private int place;
        private int wrongAt = -1;
        private int greatAt = -1;

        Reader(Field field, Text tape, Poly[] registers) {
            this.field = field;
            this.tape = tape;
            this.registers = registers;
            for (int i = 0; i < pile.length; i++) {
                pile[i] = new Poly(field);
            }
            base = new Poly(field);
            work = new Poly(field);
        }

        int wrongPlace() {
            return wrongAt;
        }

        int readInto(Poly target) {
            place = 0;
            height = 0;
            wrongAt = -1;
            greatAt = -1;
            boolean fits = readSum(0) && (next() == END || fail());
            tape.cut(0);
            if (!fits) {
                return 1;
            }
            if (greatAt >= 0) {
                wrongAt = greatAt;
                return 2;
            }
            target.become(onPile(1));
            return 0;
        }

        private boolean readSum(int depth) {
            if (!readProduct(depth)) {
                return false;
            }
            for (int turn = 0; turn < TAPE_ROOM; turn++) {
                int sign = next();
                if (sign != '+' && sign != '-') {
                    return true;
                }
                place++;
                if (!readProduct(depth)) {
                    return false;
                }
                addUp(sign);
            }
            return true;
        }

        private boolean readProduct(int depth) {
            if (!readSigned(depth)) {
                return false;
            }
            for (int turn = 0; turn < TAPE_ROOM && next() == '*'; turn++) {
                int star = place;
                place++;
                if (!readSigned(depth)) {
                    return false;
                }
                multiply(star);
            }
            return true;
        }

        private boolean readSigned(int depth) {
            if (next() == '-') {
                if (depth >= DEEPEST) {
                    return fail();
                }
                place++;
                if (!readSigned(depth + 1)) {
                    return false;
                }
                onPile(1).scale(field.minus(1));
                return true;
            }
            if (!readBase(depth)) {
                return false;
            }
            if (next() != '^') {
                return true;
            }
            int caret = place;
            place++;
            next();
            int n = readNumber();
            if (n < 0) {
                return false;
            }
            raiseTop(n, caret);
            return true;
        }

        private boolean readBase(int depth) {
            int sign = next();
            if (sign == '(') {
                if (depth >= DEEPEST) {
                    return fail();
                }
                place++;
                if (!readSum(depth + 1)) {
                    return false;
                }
                if (next() != ')') {
                    return fail();
                }
                place++;
                return true;
            }
            if (sign == 'x') {
                place++;
                return pushTerm(1, 1);
            }
            if (sign == 'r') {
                place++;
                return pushRegister(next());
            }
            int n = readNumber();
            return n >= 0 && pushTerm(field.rest(n), 0);
        }

        /** The number that begins at this very place, or -1 behind an error. */
        private int readNumber() {
            int n = 0;
            int digits = 0;
            while (digits < LONGEST_NUMBER && isDigit(tape.at(place))) {
                n = n * 10 + tape.at(place) - '0';
                digits++;
                place++;
            }
            if (digits == 0 || isDigit(tape.at(place))) {
                fail();
                return -1;
            }
            return n;
        }

        private static boolean isDigit(int sign) {
            return sign >= '0' && sign <= '9';
        }

        /** Goes over the blanks to the next byte, or END. */
        private int next() {
            while (place < tape.size() && tape.at(place) == ' ') {
                place++;
            }
            return place < tape.size() ? tape.at(place) : END;
        }

        private boolean fail() {
            wrongAt = place;
            return false;
        }

        /** What lies on the pile, counted from above, from 1. */
        private Poly onPile(int fromTop) {
            int i = height - fromTop;
            return i < 0 || i >= pile.length ? work : pile[i];
        }

        private boolean pushTerm(int c, int k) {
            if (height < 0 || height >= pile.length) {
                return fail();
            }
            pile[height].clear();
            pile[height].put(k, c);
            height++;
            return true;
        }

        private boolean pushRegister(int sign) {
            int r = sign - '0';
            if (r < 0 || r >= registers.length || height < 0 || height >= pile.length) {
                return fail();
            }
            place++;
            pile[height].become(registers[r]);
            height++;
            return true;
        }

        private void addUp(int sign) {
            Poly right = onPile(1);
            Poly left = onPile(2);
            left.addMultiple(right, sign == '+' ? 1 : field.minus(1), 0);
            height--;
        }

        /** Behind a too great one the reading goes on for an error 1, and what is reckoned does not matter. */
        private void multiply(int star) {
            Poly right = onPile(1);
            Poly left = onPile(2);
            if (isTooGreat(2, left.high(), right.high())) {
                markGreat(star);
            } else {
                work.becomeProduct(left, right);
                left.become(work);
            }
            height--;
        }

        private void raiseTop(int n, int caret) {
            Poly top = onPile(1);
            if (n == 0) {
                top.becomeNumber(1);
            } else if (top.high() < 1) {
                top.becomeNumber(field.raise(top.at(0), n));
            } else if (top.high() * n > TOP) {
                markGreat(caret);
            } else {
                base.become(top);
                for (int i = 1; i < n; i++) {
                    work.becomeProduct(top, base);
                    top.become(work);
                }
            }
        }

        private void markGreat(int where) {
            if (greatAt < 0) {
                greatAt = where;
            }
        }
    }

    /** The points, each at its x, and the polynomial through them. */
    private static final class Points {
        private final Field field;
        private final int[] heights = new int[LARGEST_P];
        private int size;

        Points(Field field) {
            this.field = field;
            Arrays.fill(heights, NONE);
        }

        int size() {
            return size;
        }

        int at(int x) {
            return x < 0 || x >= heights.length ? NONE : heights[x];
        }

        boolean has(int x) {
            return at(x) != NONE;
        }

        void put(int x, int y) {
            if (x < 0 || x >= heights.length) {
                return;
            }
            if (!has(x)) {
                size++;
            }
            heights[x] = y;
        }

        void clear() {
            Arrays.fill(heights, NONE);
            size = 0;
        }

        /** Newton's way: knots is 0 at each x so far, so that a multiple of it mends the next. */
        void joinInto(Poly target, Poly knots) {
            target.clear();
            knots.becomeNumber(1);
            for (int x = 0; x < heights.length; x++) {
                if (has(x)) {
                    int missing = field.rest(at(x) - target.valueAt(x));
                    int c = field.times(missing, field.inverse(knots.valueAt(x)));
                    target.addMultiple(knots, c, 0);
                    knots.timesRoot(x);
                }
            }
        }

        long digestOn(long d) {
            for (int x = 0; x < heights.length; x++) {
                if (has(x)) {
                    d = (d * 31 + x) * 31 + at(x);
                }
            }
            return d;
        }
    }

    /** Goes Euclid's way in rows of its own. */
    private static final class Euclid {
        private final Field field;
        private final Poly quotient;
        private final Poly work;
        private Poly r;
        private Poly nextR;
        private Poly s;
        private Poly nextS;
        private Poly t;
        private Poly nextT;

        Euclid(Field field) {
            this.field = field;
            quotient = new Poly(field);
            work = new Poly(field);
            r = new Poly(field);
            nextR = new Poly(field);
            s = new Poly(field);
            nextS = new Poly(field);
            t = new Poly(field);
            nextT = new Poly(field);
        }

        Poly common() {
            return r;
        }

        Poly makerOfFirst() {
            return s;
        }

        Poly makerOfSecond() {
            return t;
        }

        /** Finds the greatest common divisor alone. */
        void meet(Poly a, Poly b) {
            r.become(a);
            nextR.become(b);
            for (int turn = 0; turn < MOST_TURNS && !nextR.isZero(); turn++) {
                r.reduce(nextR, null);
                swapR();
            }
            r.scale(field.inverse(r.lead()));
        }

        /** Finds it with what makes it. */
        void walk(Poly a, Poly b) {
            r.become(a);
            s.becomeNumber(1);
            t.clear();
            nextR.become(b);
            nextS.clear();
            nextT.becomeNumber(1);
            for (int turn = 0; turn < MOST_TURNS && !nextR.isZero(); turn++) {
                quotient.clear();
                r.reduce(nextR, quotient);
                takeOff(s, nextS);
                takeOff(t, nextT);
                swapR();
                swapMakers();
            }
            if (!r.isZero()) {
                int c = field.inverse(r.lead());
                r.scale(c);
                s.scale(c);
                t.scale(c);
            }
        }

        private void takeOff(Poly from, Poly other) {
            work.becomeProduct(quotient, other);
            from.subtract(work);
        }

        private void swapR() {
            Poly held = r;
            r = nextR;
            nextR = held;
        }

        private void swapMakers() {
            Poly held = s;
            s = nextS;
            nextS = held;
            held = t;
            t = nextT;
            nextT = held;
        }

        int resultantOf(Poly a, Poly b) {
            r.become(a);
            nextR.become(b);
            int product = 1;
            for (int turn = 0; turn < MOST_TURNS; turn++) {
                if (r.isZero() || nextR.isZero()) {
                    return 0;
                }
                if (nextR.high() == 0) {
                    return field.times(product, field.raise(nextR.at(0), r.high()));
                }
                if ((r.high() & nextR.high() & 1) == 1) {
                    product = field.minus(product);
                }
                // Where the degree of r is less, r is its own remainder, and this is the swap alone.
                if (r.high() >= nextR.high()) {
                    int before = r.high();
                    r.reduce(nextR, null);
                    product = field.times(product, field.raise(nextR.lead(), before - r.high()));
                }
                swapR();
            }
            return 0;
        }
    }

    /** Takes polynomials apart, by Berlekamp's way, and keeps the factors. */
    private static final class Splitter {
        private final Field field;
        private final Euclid euclid;
        private final Poly[] primes = new Poly[TOP];
        private final int[] times = new int[TOP];
        private int size;
        private final int[] grid = new int[TOP * TOP];
        private final int[] pivots = new int[TOP];
        private int order;
        private final Poly rest;
        private final Poly slope;
        private final Poly quotient;
        private final Poly vector;

        Splitter(Field field, Euclid euclid) {
            this.field = field;
            this.euclid = euclid;
            for (int i = 0; i < primes.length; i++) {
                primes[i] = new Poly(field);
            }
            rest = new Poly(field);
            slope = new Poly(field);
            quotient = new Poly(field);
            vector = new Poly(field);
        }

        int size() {
            return size;
        }

        void forget() {
            size = 0;
        }

        Poly prime(int i) {
            return i < 0 || i >= primes.length ? rest : primes[i];
        }

        int timesOf(int i) {
            return i < 0 || i >= times.length ? 0 : times[i];
        }

        boolean isPrime(Poly a) {
            if (a.high() < 2) {
                return a.high() == 1;
            }
            slope.becomeSlope(a);
            euclid.meet(a, slope);
            if (euclid.common().high() > 0) {
                return false;
            }
            rest.become(a);
            return countParts(rest) == 1;
        }

        /**
         * A turn takes those factors off that stand in the rest a number of times that p does not divide: only they show
         * in its derivative. Behind it the rest is a pth power, whose root is the next rest.
         */
        void find(Poly a) {
            size = 0;
            rest.become(a);
            rest.scale(field.inverse(rest.lead()));
            int weight = 1;
            for (int turn = 0; turn < MOST_TURNS && rest.high() > 0; turn++) {
                slope.becomeSlope(rest);
                if (slope.isZero()) {
                    takeFieldRoot();
                    weight *= field.p();
                } else {
                    int first = size;
                    int goal = first + openSimpleParts();
                    for (int column = 1; column < TOP && size < goal; column++) {
                        splitAt(column, first, goal);
                    }
                    stripFrom(first, weight);
                }
            }
            sort();
        }

        /** Numbers are their own pth powers, so only the powers of x change. */
        private void takeFieldRoot() {
            slope.clear();
            for (int k = 0; k <= TOP; k++) {
                slope.put(k, rest.at(k * field.p()));
            }
            rest.become(slope);
        }

        /** Keeps, as one piece yet, the product of the factors that the derivative shows, each once; tells how many these are. */
        private int openSimpleParts() {
            euclid.meet(rest, slope);
            slope.become(rest);
            quotient.clear();
            slope.reduce(euclid.common(), quotient);
            keep(quotient);
            return countParts(quotient);
        }

        private void keep(Poly a) {
            if (size >= 0 && size < primes.length) {
                primes[size].become(a);
                size++;
            }
        }

        /** By each factor v is a number c, so what a piece and v - c have in common is the product of its factors with this c. */
        private void splitAt(int column, int first, int goal) {
            if (!makeVector(column)) {
                return;
            }
            for (int c = 0; c < field.p() && size < goal; c++) {
                int end = size;
                for (int i = first; i < end; i++) {
                    splitOne(prime(i));
                }
                vector.put(0, field.rest(vector.at(0) - 1));
            }
        }

        private void stripFrom(int first, int weight) {
            for (int i = first; i < size && i < times.length; i++) {
                times[i] = weight * strip(prime(i));
            }
        }

        /** Divides the rest by a factor as often as it goes; tells how often. */
        private int strip(Poly prime) {
            for (int often = 0; often < TOP; often++) {
                slope.become(rest);
                quotient.clear();
                slope.reduce(prime, quotient);
                if (!slope.isZero()) {
                    return often;
                }
                rest.become(quotient);
            }
            return TOP;
        }

        private void splitOne(Poly piece) {
            if (piece.high() < 2) {
                return;
            }
            euclid.meet(piece, vector);
            Poly common = euclid.common();
            if (common.high() < 1 || common.high() >= piece.high()) {
                return;
            }
            keep(common);
            slope.become(piece);
            quotient.clear();
            slope.reduce(common, quotient);
            piece.become(quotient);
        }

        /** Where no factor stands twice, there are as many as the dimension of the v that are their own pth powers by a. */
        private int countParts(Poly a) {
            order = a.high();
            fillGrid(a);
            return order - eliminate();
        }

        /** Column k is the remainder of x^(k * p) - x^k by a, so that the v are what the grid turns into 0. */
        private void fillGrid(Poly a) {
            vector.becomeNumber(1);
            for (int column = 0; column < order; column++) {
                for (int line = 0; line < order; line++) {
                    int own = line == column ? 1 : 0;
                    putCell(line, column, field.rest(vector.at(line) - own));
                }
                for (int i = 0; i < field.p(); i++) {
                    vector.timesX(a);
                }
            }
        }

        /** Brings the lines into their reduced form and tells their rank. */
        private int eliminate() {
            int rank = 0;
            for (int column = 0; column < order; column++) {
                int line = firstFilled(rank, column);
                putPivot(column, line < 0 ? NONE : rank);
                if (line >= 0) {
                    swapLines(line, rank);
                    scaleLine(rank, field.inverse(cell(rank, column)));
                    clearColumn(column, rank);
                    rank++;
                }
            }
            return rank;
        }

        private int firstFilled(int from, int column) {
            for (int line = from; line < order; line++) {
                if (cell(line, column) != 0) {
                    return line;
                }
            }
            return NONE;
        }

        private void swapLines(int a, int b) {
            for (int k = 0; k < order; k++) {
                int held = cell(a, k);
                putCell(a, k, cell(b, k));
                putCell(b, k, held);
            }
        }

        private void scaleLine(int line, int c) {
            for (int k = 0; k < order; k++) {
                putCell(line, k, field.times(cell(line, k), c));
            }
        }

        private void clearColumn(int column, int pivot) {
            for (int line = 0; line < order; line++) {
                int c = field.minus(cell(line, column));
                if (line != pivot && c != 0) {
                    addLine(line, pivot, c);
                }
            }
        }

        private void addLine(int to, int from, int c) {
            int p = field.p;
            for (int k = 0; k < order && p >= 2; k++) {
                int there = to * TOP + k;
                int here = from * TOP + k;
                if (there >= 0 && there < grid.length && here >= 0 && here < grid.length) {
                    grid[there] = (grid[there] + c * grid[here]) % p;
                }
            }
        }

        /** The v that has 1 at a column without a pivot, and 0 at the others of them; false if there is a pivot. */
        private boolean makeVector(int column) {
            if (column >= order || pivotOf(column) != NONE) {
                return false;
            }
            vector.clear();
            vector.put(column, 1);
            for (int k = 0; k < order; k++) {
                if (pivotOf(k) != NONE) {
                    vector.put(k, field.minus(cell(pivotOf(k), column)));
                }
            }
            return true;
        }

        private int pivotOf(int column) {
            return column < 0 || column >= pivots.length ? NONE : pivots[column];
        }

        private void putPivot(int column, int line) {
            if (column >= 0 && column < pivots.length) {
                pivots[column] = line;
            }
        }

        private int cell(int line, int column) {
            int i = line * TOP + column;
            return i < 0 || i >= grid.length ? 0 : grid[i];
        }

        private void putCell(int line, int column, int c) {
            int i = line * TOP + column;
            if (i >= 0 && i < grid.length) {
                grid[i] = c;
            }
        }

        private void sort() {
            for (int end = 1; end < size; end++) {
                for (int i = end; i > 0 && prime(i).comesBefore(prime(i - 1)); i--) {
                    swapPrimes(i, i - 1);
                }
            }
        }

        private void swapPrimes(int a, int b) {
            if (a < 0 || b < 0 || a >= primes.length || b >= primes.length) {
                return;
            }
            Poly heldPrime = primes[a];
            primes[a] = primes[b];
            primes[b] = heldPrime;
            int heldTimes = times[a];
            times[a] = times[b];
            times[b] = heldTimes;
        }
    }
}
