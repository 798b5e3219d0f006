import java.lang.reflect.Method;
import java.util.ArrayList;
import java.util.Arrays;
import java.util.Comparator;
import java.util.List;
import java.util.Random;

/** Many runs of calls by chance (from fixed seeds), each answered by the class and by its twin. */
public final class TwinTest {
    private static final int RUNS = 700;
    private static final int CALLS = 160;
    private static final int[] ODD = {-1, -2, 0, 1, 2, 3, 8, 9, 12, 13, 23, 24, 60, 61, 255, 256,
        Integer.MAX_VALUE, Integer.MIN_VALUE};

    private final Random random;
    private final Bagatelle x = new Bagatelle();
    private final Twin twin = new Twin();
    private final List<String> calls = new ArrayList<>();
    private boolean wrong = false;

    private TwinTest(long seed) {
        random = new Random(seed);
    }

    public static void main(String[] args) {
        int wrongRuns = 0;
        for (int run = 0; run < RUNS; run++) {
            TwinTest test = new TwinTest(run);
            test.play();
            wrongRuns += test.wrong ? 1 : 0;
        }
        System.out.println(RUNS - wrongRuns + " runs of " + RUNS + " as the twin answers");
        System.exit(wrongRuns == 0 ? 0 : 1);
    }

    private static List<Method> face() {
        List<Method> face = new ArrayList<>();
        for (Method m : Bagatelle.class.getDeclaredMethods()) {
            if (java.lang.reflect.Modifier.isPublic(m.getModifiers()) && !m.getName().equals("digest")) {
                face.add(m);
            }
        }
        face.sort(Comparator.comparing(Method::getName));
        return face;
    }

    private void play() {
        List<Method> face = face();
        tell(0, pinText());
        tell(1, cupText());
        tell(2, ballText());
        tellEvents();
        for (int i = 0; i < CALLS && !wrong; i++) {
            int choice = random.nextInt(60);
            if (choice == 0) {
                retell(random.nextInt(3));
            } else if (choice == 1) {
                tellEvents();
            } else if (choice == 2) {
                see();
            } else if (choice == 3 && random.nextInt(8) == 0) {
                compare("digest");
            } else {
                Method m = face.get(random.nextInt(face.size()));
                if (!m.getName().equals("wipe") || random.nextInt(10) == 0) {
                    compare(m.getName(), arguments(m.getName(), m.getParameterCount()));
                }
            }
        }
    }

    private void compare(String name, int... args) {
        if (wrong) {
            return;
        }
        calls.add(name + Arrays.toString(args));
        long got = Digests.call(x, name, args);
        long want = Digests.call(twin, name, args);
        if (got != want) {
            wrong = true;
            System.out.println(calls + " answered " + got + ", the twin " + want);
        }
    }

    private int number(int most) {
        return random.nextInt(25) == 0 ? ODD[random.nextInt(ODD.length)] : random.nextInt(most + 1);
    }

    private int[] arguments(String name, int n) {
        int[] args = new int[n];
        int[] most = ranges(name);
        for (int i = 0; i < n; i++) {
            args[i] = number(most[i]);
        }
        if (name.equals("spare")) {
            args[0]--;
        } else if (name.equals("sundays") || name.equals("lay")) {
            int wide = name.equals("lay") ? 3 : 0;
            args[wide] = random.nextInt(3) > 0 ? random.nextInt() : args[wide];
        } else if (name.equals("type")) {
            args[1] = random.nextInt(3) > 0 ? ";012345678lrtbax9".charAt(random.nextInt(17)) : args[1];
        }
        return args;
    }

    private int[] ranges(String name) {
        int ball = Math.max(0, (int) twin.count(1) - 1);
        int pin = Math.max(0, (int) twin.count(0) - 1);
        switch (name) {
            case "type": return new int[] {2, 255};
            case "pin": return new int[] {pin, 2};
            case "cup": return new int[] {8, 2};
            case "ball": return new int[] {ball, 1};
            case "room": return new int[] {9};
            case "event": return new int[] {2, 23, 11};
            case "at": return new int[] {23, ball, 1};
            case "sees": return new int[] {23, 7, 8};
            case "ends": return new int[] {ball, 2};
            case "bend": return new int[] {pin, 1};
            case "shoot": case "time": return new int[] {ball, 1};
            case "seen": return new int[] {23, 7, 8, 12};
            case "forces": case "ask": return new int[] {ball};
            case "kind": return new int[] {pin};
            case "chance": return new int[] {16, ball, 1};
            case "sundays": return new int[] {99, 12, 1};
            case "sheet": return new int[] {3, 2, 60};
            case "lay": return new int[] {3, 2, 30, 23};
            case "get": return new int[] {3, 2, 30};
            case "copy": return new int[] {3, 20, 3, 20, 20};
            case "write": return new int[] {ball, 3};
            case "count": return new int[] {8};
            case "jam": return new int[] {1};
            default: return new int[] {2};
        }
    }

    private void tell(int text, String bytes) {
        for (char b : bytes.toCharArray()) {
            compare("type", text, b);
        }
        compare("fault", text);
    }

    private void retell(int text) {
        compare("wipe", text);
        tell(text, text == 0 ? pinText() : text == 1 ? cupText() : ballText());
    }

    private String pinText() {
        StringBuilder text = new StringBuilder();
        List<Integer> cells = new ArrayList<>();
        int n = random.nextInt(13);
        for (int i = 0; i < n; i++) {
            int cell = random.nextInt(8) * 10 + (random.nextInt(2) == 0 ? 3 + random.nextInt(3) : random.nextInt(9));
            if (cells.contains(cell) && random.nextInt(20) > 0) {
                continue;
            }
            cells.add(cell);
            text.append(text.length() > 0 ? ";" : "");
            text.append(cell / 10).append(cell % 10).append("lrtb".charAt(random.nextInt(4)));
        }
        return text.toString();
    }

    private String cupText() {
        StringBuilder text = new StringBuilder();
        int n = random.nextInt(10);
        for (int i = 0; i < n; i++) {
            text.append(random.nextInt(10));
        }
        return text.toString();
    }

    private String ballText() {
        StringBuilder text = new StringBuilder();
        int n = random.nextInt(13);
        int lastTick = 1 + random.nextInt(24);
        for (int i = 0; i < n; i++) {
            text.append(i > 0 ? ";" : "");
            text.append((char) ('a' + random.nextInt(lastTick)));
            text.append(random.nextInt(2) == 0 ? 4 + random.nextInt(3) : 1 + random.nextInt(9));
        }
        return text.toString();
    }

    private void tellEvents() {
        int n = random.nextInt(5);
        for (int i = 0; i < n; i++) {
            compare("event", random.nextInt(3), random.nextInt(24), random.nextInt(12));
        }
    }

    /** Tells what really is somewhere, so that what is asked of it is not always none. */
    private void see() {
        int balls = twin.count(1);
        int tick = random.nextInt(24);
        if (balls == 0) {
            return;
        }
        int ball = random.nextInt(balls);
        int row = twin.at(tick, ball, 0);
        if (row >= 0 && row <= 7) {
            compare("seen", tick, row, twin.at(tick, ball, 1), ball);
            compare("forces", ball);
            compare("ask", ball);
            compare("never");
        }
    }
}
