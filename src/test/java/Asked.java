import java.lang.reflect.InvocationTargetException;
import java.lang.reflect.Method;
import java.util.Arrays;
import java.util.Comparator;
import java.util.Set;
import java.util.TreeSet;

/** What the tests of the project share: how a board is told, what is due, how many answers were wrong. */
class Asked {
    static final int NONE = -1, BAD = -2, NOT = -3, FULL = -4;
    static final int NULL = -11, INDEX = -12, CAST = -13, STORE = -14, SIZE = -15;
    static final int LEAST = Integer.MIN_VALUE, MANY = Integer.MAX_VALUE;
    static final long LONG_BAD = Long.MIN_VALUE + 2;
    static final String TWELVE_PINS = "00l;01l;02l;03l;04l;05l;06l;07l;08l;10l;11l;12l";
    static final String TWELVE_ALIKE = "a1;a1;a1;a1;a1;a1;a1;a1;a1;a1;a1;a1";
    static final String TWELVE_BALLS = "a1;a2;a3;a4;a5;a6;a7;a8;a9;b1;b2;b3";

    private static int asked = 0;
    private static int wrong = 0;
    private static String test = "";

    static void due(String what, long got, long want) {
        asked++;
        if (got != want) {
            wrong++;
            System.out.println(test + what + ": answered " + got + ", due is " + want);
        }
    }

    static void due(int promise, String what, long got, long want) {
        due("promise " + promise + ", " + what, got, want);
    }

    static void dueTrue(String what, boolean holds) {
        due(what, holds ? 1 : 0, 1);
    }

    static Bagatelle told(String pins, String cups, String balls) {
        Bagatelle x = new Bagatelle();
        typed(x, 0, pins);
        typed(x, 1, cups);
        typed(x, 2, balls);
        return x;
    }

    static Bagatelle typed(Bagatelle x, int text, String bytes) {
        for (char b : bytes.toCharArray()) {
            x.type(text, b);
        }
        return x;
    }

    /** A sheet of just these items. */
    static Bagatelle lay(Bagatelle x, int s, int form, int... items) {
        x.sheet(s, form, items.length);
        for (int i = 0; i < items.length; i++) {
            x.lay(s, form, i, items[i]);
        }
        return x;
    }

    static int[] args(int... args) {
        return args;
    }

    /** Runs all tests of a class that are named after a promise, and answers the numbers of these. */
    static Set<Integer> runPromises(Class<?> cases) {
        Set<Integer> promises = new TreeSet<>();
        Method[] methods = cases.getDeclaredMethods();
        Arrays.sort(methods, Comparator.comparing(Method::getName));
        for (Method m : methods) {
            if (m.getName().matches("promise\\d\\d\\w+")) {
                test = m.getName() + ": ";
                promises.add(Integer.parseInt(test.substring(7, 9)));
                run(m);
            }
        }
        test = "";
        return promises;
    }

    private static void run(Method m) {
        try {
            m.invoke(null);
        } catch (IllegalAccessException | InvocationTargetException e) {
            due("ends with " + e.getCause(), 0, 1);
        }
    }

    static void finish() {
        System.out.println(asked - wrong + " answers of " + asked + " as due");
        System.exit(wrong == 0 ? 0 : 1);
    }
}
