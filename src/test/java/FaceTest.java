import java.lang.reflect.Constructor;
import java.lang.reflect.Field;
import java.lang.reflect.Method;
import java.lang.reflect.Modifier;
import java.util.ArrayList;
import java.util.Arrays;
import java.util.Collections;
import java.util.List;
import java.util.TreeSet;

/** The public face of the document, and a crowd of wrong arguments. */
public final class FaceTest {
    private static final String[] FACE = {
        "int begin(int) IllegalArgumentException",
        "int feed(int, int, int, int, int) IllegalStateException",
        "int trim(int) IllegalArgumentException",
        "int read(int) IndexOutOfBoundsException",
        "int errorAt()",
        "int set(int, int, int) IndexOutOfBoundsException",
        "int coefficient(int, int) IndexOutOfBoundsException",
        "int degree(int) IndexOutOfBoundsException",
        "int write(int) IndexOutOfBoundsException",
        "int byteAt(int) IndexOutOfBoundsException",
        "int count(int) IndexOutOfBoundsException",
        "int reckon(int, int, int, int) IllegalArgumentException IndexOutOfBoundsException IllegalStateException",
        "int divide(int, int, int, int) IndexOutOfBoundsException IllegalArgumentException IllegalStateException",
        "int bezout(int, int, int, int) IndexOutOfBoundsException IllegalArgumentException",
        "int power(int, int, int, int) IndexOutOfBoundsException IllegalArgumentException IllegalStateException",
        "int value(int, int) IndexOutOfBoundsException",
        "int resultant(int, int) IndexOutOfBoundsException",
        "int point(int, int) IllegalArgumentException IllegalStateException",
        "int clearPoints()",
        "int join(int) IndexOutOfBoundsException",
        "int root(int, int) IndexOutOfBoundsException",
        "int factor(int) IndexOutOfBoundsException IllegalStateException",
        "int part(int, int) IndexOutOfBoundsException",
        "int take(int, int) IndexOutOfBoundsException",
        "boolean isIrreducible(int) IndexOutOfBoundsException",
        "int period(int) IndexOutOfBoundsException",
        "double meanDegree()",
        "long digest()",
    };
    private static final int[] ODD = {Integer.MIN_VALUE, -1, 0, 1, 2, 9, 10, 24, 25, 96, 97, 400, 401, 1000000, 1000001, Integer.MAX_VALUE};

    private FaceTest() {
    }

    private static String shown(Method m) {
        List<String> kinds = new ArrayList<>();
        for (Class<?> kind : m.getParameterTypes()) {
            kinds.add(kind.getSimpleName());
        }
        StringBuilder text = new StringBuilder(m.getReturnType().getSimpleName() + " " + m.getName() + "(" + String.join(", ", kinds) + ")");
        for (Class<?> thrown : m.getExceptionTypes()) {
            text.append(" ").append(thrown.getSimpleName());
        }
        return text.toString();
    }

    private static void face() {
        TreeSet<String> want = new TreeSet<>(Arrays.asList(FACE));
        TreeSet<String> got = new TreeSet<>();
        for (Method m : PolyLathe.class.getDeclaredMethods()) {
            if (!Modifier.isPrivate(m.getModifiers())) {
                got.add(shown(m));
                Check.holds(m + " is public and no more", m.getModifiers() == Modifier.PUBLIC);
            }
        }
        Check.dueText("the face", got.toString(), want.toString());
        Check.due("public and final", PolyLathe.class.getModifiers(), Modifier.PUBLIC | Modifier.FINAL);
        Constructor<?>[] makers = PolyLathe.class.getDeclaredConstructors();
        Check.due("constructors", makers.length, 1);
        Check.holds("it is public, without parameters", makers[0].getModifiers() == Modifier.PUBLIC && makers[0].getParameterCount() == 0);
        for (Field f : PolyLathe.class.getDeclaredFields()) {
            Check.holds(f + " is private", Modifier.isPrivate(f.getModifiers()));
        }
        for (Class<?> inside : PolyLathe.class.getDeclaredClasses()) {
            Check.holds(inside + " is static", Modifier.isStatic(inside.getModifiers()) && Modifier.isPrivate(inside.getModifiers()));
        }
    }

    private static Object argument(int i) {
        return ODD[Math.floorMod(i, ODD.length)];
    }

    /** No call throws anything but what it names, and none that throws changes anything. */
    private static void oddArguments() throws IllegalAccessException {
        List<Method> face = new ArrayList<>();
        for (Method m : PolyLathe.class.getDeclaredMethods()) {
            if (Modifier.isPublic(m.getModifiers())) {
                face.add(m);
            }
        }
        Collections.sort(face, (a, b) -> a.getName().compareTo(b.getName()));
        int dice = 12345;
        for (int round = 0; round < 150; round++) {
            PolyLathe x = new PolyLathe();
            for (int call = 0; call < 512; call += 3) {
                dice = dice * 1103515245 + 12345;
                Method m = face.get((dice >>> 8) % face.size());
                Object[] arguments = new Object[m.getParameterCount()];
                for (int i = 0; i < arguments.length; i++) {
                    dice = dice * 1103515245 + 12345;
                    boolean odd = (dice >>> 28) == 0;
                    arguments[i] = odd ? argument(dice >>> 8) : Integer.valueOf((dice >>> 8) % 8);
                }
                one(x, m, arguments);
            }
        }
    }

    private static void one(PolyLathe x, Method m, Object[] arguments) throws IllegalAccessException {
        long before = x.digest();
        try {
            m.invoke(x, arguments);
        } catch (java.lang.reflect.InvocationTargetException e) {
            Class<?> thrown = e.getCause().getClass();
            Check.holds(m.getName() + Arrays.toString(arguments) + " may throw " + thrown, Arrays.asList(m.getExceptionTypes()).contains(thrown));
            Check.due(m.getName() + Arrays.toString(arguments) + " threw; digest", x.digest(), before);
        }
    }

    public static void main(String[] args) throws IllegalAccessException {
        face();
        oddArguments();
        Check.end("FaceTest");
    }
}
