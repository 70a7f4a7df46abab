import java.nio.charset.StandardCharsets;
import java.util.function.Consumer;
import java.util.function.Supplier;

/** What the tests share: comparing answers, and feeding texts. */
final class Check {
    interface Call {
        void run();
    }

    private static int wrong = 0;
    private static int made = 0;

    private Check() {
    }

    static void due(String what, long got, long want) {
        made++;
        if (got != want) {
            complain(what + " answered " + got + ", due is " + want);
        }
    }

    static void dueReal(String what, double got, double want) {
        made++;
        if (got != want) {
            complain(what + " answered " + got + ", due is " + want);
        }
    }

    static void dueText(String what, String got, String want) {
        made++;
        if (!got.equals(want)) {
            complain(what + " answered " + got + ", due is " + want);
        }
    }

    static void holds(String what, boolean fact) {
        made++;
        if (!fact) {
            complain(what + " does not hold");
        }
    }

    /** The call throws just this class, and neither digest nor errorAt change by it. */
    static void raises(PolyLathe lathe, String what, Class<? extends RuntimeException> type, Call call) {
        made++;
        long before = lathe.digest();
        int errorBefore = lathe.errorAt();
        Class<?> thrown = thrownBy(call);
        if (thrown != type) {
            complain(what + " threw " + thrown + ", due is " + type);
        }
        if (lathe.digest() != before || lathe.errorAt() != errorBefore) {
            complain(what + " threw and changed something");
        }
    }

    private static Class<?> thrownBy(Call call) {
        try {
            call.run();
            return null;
        } catch (RuntimeException e) {
            return e.getClass();
        }
    }

    /** The call throws just this class, and the object tells the same as a twin that it was not made on. */
    static void refuses(String what, Class<? extends RuntimeException> type, Supplier<PolyLathe> maker, Consumer<PolyLathe> call) {
        made++;
        PolyLathe touched = maker.get();
        Class<?> thrown = thrownBy(() -> call.accept(touched));
        if (thrown != type) {
            complain(what + " threw " + thrown + ", due is " + type);
        }
        dueText("all behind " + what, Bench.everything(touched), Bench.everything(maker.get()));
    }

    static void complain(String text) {
        wrong++;
        if (wrong <= 50) {
            System.out.println(text);
        }
    }

    static int wrong() {
        return wrong;
    }

    /** Feeds a text and trims what was fed too much; the tape has to be empty ahead. */
    static void type(PolyLathe lathe, String text) {
        byte[] bytes = text.getBytes(StandardCharsets.ISO_8859_1);
        for (int at = 0; at < bytes.length; at += 20) {
            lathe.feed(four(bytes, at), four(bytes, at + 4), four(bytes, at + 8), four(bytes, at + 12), four(bytes, at + 16));
        }
        lathe.trim(bytes.length);
    }

    static int four(byte[] bytes, int at) {
        int four = 0;
        for (int i = at; i < at + 4; i++) {
            four = four << 8 | (i < bytes.length ? bytes[i] & 255 : ' ');
        }
        return four;
    }

    static PolyLathe begun(int p) {
        PolyLathe lathe = new PolyLathe();
        lathe.begin(p);
        return lathe;
    }

    static int read(PolyLathe lathe, int r, String text) {
        type(lathe, text);
        return lathe.read(r);
    }

    static void put(PolyLathe lathe, int r, String text) {
        due("reading " + text, read(lathe, r, text), 0);
    }

    static String written(PolyLathe lathe, int r) {
        StringBuilder text = new StringBuilder();
        int n = lathe.write(r);
        for (int k = 0; k < n; k++) {
            text.append((char) lathe.byteAt(k));
        }
        return text.toString();
    }

    static void end(String name) {
        System.out.println(name + ": " + made + " checks, " + wrong + " wrong");
        if (wrong != 0) {
            System.exit(1);
        }
    }
}
