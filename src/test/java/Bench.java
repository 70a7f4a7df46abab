/** Objects in the states that a refused call could spoil, and all that calls can tell of one. */
final class Bench {
    private Bench() {
    }

    /** p = 7; something is in every part of it, the latest read had error 2 at 1. */
    static PolyLathe busy() {
        PolyLathe x = new PolyLathe();
        Check.put(x, 0, "x^24+3*x+1");
        Check.put(x, 1, "x^2-1");
        Check.put(x, 2, "5");
        Check.put(x, 3, "2*x^13+x");
        Check.put(x, 8, "(x+3)^2*x");
        x.factor(8);
        x.write(3);
        x.point(1, 2);
        x.point(6, 0);
        x.point(0, 5);
        Check.due("the error of busy", Check.read(x, 4, "x^25"), 2);
        Check.type(x, "r3+x^2*3");
        return x;
    }

    /** p = 97; tape, paper, points, factors and one register can't hold more; the latest read had no error. */
    static PolyLathe full() {
        PolyLathe x = new PolyLathe();
        x.begin(97);
        x.set(0, 0, 1);
        x.set(1, 1, 1);
        for (int i = 0; i < 24; i++) {
            x.set(1, 0, i);
            x.reckon(2, 0, 1, 0);
        }
        for (int k = 0; k <= 24; k++) {
            x.set(2, k, 96);
            x.point(96 - k, k);
        }
        Check.due("factors of full", x.factor(0), 24);
        Check.due("the paper of full", x.write(2), 159);
        Check.put(x, 9, "x^3+2");
        Check.type(x, "1+".repeat(199) + "r2");
        Check.due("the tape of full", x.count(1), 400);
        return x;
    }

    /**
     * What the digest does not tell of the tape is told by reading it, so the object is used up behind this; not every
     * coefficient is asked for, as an object has 512 calls only.
     */
    static String everything(PolyLathe x) {
        StringBuilder t = new StringBuilder("errorAt " + x.errorAt() + ", digest " + x.digest() + ", mean " + x.meanDegree());
        for (int what = 0; what <= 4; what++) {
            t.append(", count ").append(x.count(what));
        }
        for (int r = 0; r <= 9; r++) {
            t.append(", degree ").append(x.degree(r)).append(", at 1 ").append(x.value(r, 1));
        }
        t.append(", read ").append(x.read(9)).append(" at ").append(x.errorAt()).append(", digest ").append(x.digest());
        return t.toString();
    }
}
