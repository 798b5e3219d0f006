import java.util.ArrayList;
import java.util.Arrays;
import java.util.List;
import java.util.function.Supplier;

/** Asks for a refusal, and holds the object against one that was never asked: nothing else may differ. */
class Refused extends Asked {
    static final int PARTS = 3;

    /** A board with a little of everything; sheet 0 is LOST, 1 to 3 have 3 bytes, 4 shorts, 5 ints. */
    static Bagatelle plain() {
        Bagatelle x = told("04t;13l;15r", "12345678", "a5;b5;c1");
        x.event(0, 3, 1);
        x.event(2, 12, 4);
        x.seen(4, 3, 8, 12);
        lay(x, 1, 0, 1, 2, 3);
        lay(x, 2, 1, 4, 5, 6, 7);
        return lay(x, 3, 2, 8, 9, 10, 11, 12);
    }

    /** A board on which nothing more finds place; all its sheets have items but for sheet 0, which is LOST. */
    static Bagatelle full() {
        Bagatelle x = told(TWELVE_PINS, "123456789", TWELVE_BALLS);
        for (int i = 0; i < 8; i++) {
            x.event(i % 3, i + 2, i);
            x.seen(i, 7, 8, 12);
        }
        for (int s = 1; s < 4; s++) {
            x.sheet(s, s - 1, 60);
            x.lay(s, s - 1, 59, s);
        }
        return x;
    }

    static void refused(long answer, String name, int... args) {
        refused(Refused::plain, answer, name, args);
    }

    static void refusedWhenFull(long answer, String name, int... args) {
        refused(Refused::full, answer, name, args);
    }

    static void refusedWhenNew(long answer, String name, int... args) {
        refused(Bagatelle::new, answer, name, args);
    }

    static void refused(Supplier<Bagatelle> state, long answer, String name, int... args) {
        boolean isFinding = answer <= NULL && answer >= SIZE;
        refused(state, answer, isFinding ? (int) (-10 - answer) : 0, name, args);
    }

    /** The finding is the number that count(8) is to tell; 0 where it stays as it was. */
    static void refused(Supplier<Bagatelle> state, long answer, int finding, String name, int... args) {
        String call = name + Arrays.toString(args);
        int before = finding == 5 ? 1 : 5;
        for (int part = 0; part < PARTS; part++) {
            Bagatelle x = state.get();
            Bagatelle same = state.get();
            find(x, before);
            find(same, before);
            due(call, Digests.call(x, name, args), answer);
            due("latest finding behind " + call, x.count(8), finding == 0 ? before : finding);
            List<Long> got = probe(x, part);
            List<Long> want = probe(same, part);
            dueTrue("nothing is changed behind " + call + " in part " + part, got.equals(want));
        }
    }

    /** A finding beforehand, so that one that is told anew, or not, can be seen. */
    private static void find(Bagatelle x, int finding) {
        due("a finding", finding == 5 ? x.sheet(0, 0, -1) : x.lose(0), -10 - finding);
    }

    /** The last numbers that are taken, and the first that are not, of one argument. */
    static void bounds(String name, int[] args, int index, int least, int most) {
        bounds(Refused::plain, BAD, BAD, name, args, index, least, most);
    }

    static void bounds(Supplier<Bagatelle> state, long below, long above, String name, int[] args, int index,
            int least, int most) {
        for (int taken : new int[] {least, most}) {
            int[] with = with(args, index, taken);
            long answer = Digests.call(state.get(), name, with);
            dueTrue(name + Arrays.toString(with) + " is taken, not " + answer, answer >= NONE);
        }
        refused(state, below, name, with(args, index, least - 1));
        refused(state, below, name, with(args, index, LEAST));
        refused(state, above, name, with(args, index, most + 1));
        refused(state, above, name, with(args, index, MANY));
    }

    static int[] with(int[] args, int index, int value) {
        int[] with = args.clone();
        with[index] = value;
        return with;
    }

    /** All that can be heard of an object, in parts, each within the 512 calls that it may be used for. */
    static List<Long> probe(Bagatelle x, int part) {
        List<Long> heard = new ArrayList<>();
        if (part == 0) {
            hearBoard(x, heard);
        } else if (part == 1) {
            hearSheets(x, heard);
        } else {
            hearTexts(x, heard);
        }
        return heard;
    }

    private static void hearBoard(Bagatelle x, List<Long> heard) {
        for (int what = 0; what < 8; what++) {
            heard.add((long) x.count(what));
        }
        heard.add(x.digest());
        for (int ball = 0; ball < x.count(1) && ball < 4; ball++) {
            for (int tick = 0; tick < 24; tick++) {
                heard.add((long) x.at(tick, ball, 0));
                heard.add((long) x.at(tick, ball, 1));
            }
        }
        heard.add((long) x.spare(1));
        heard.add((long) x.forget());
        for (int left = x.count(3); left >= 0; left--) {
            heard.add(x.digest());
            heard.add((long) x.back());
        }
    }

    private static void hearSheets(Bagatelle x, List<Long> heard) {
        for (int s = 0; s < 4; s++) {
            for (int form = 0; form < 3; form++) {
                for (int i : new int[] {0, 1, 2, 3, 4, 5, 58, 59}) {
                    heard.add((long) x.get(s, form, i));
                }
            }
            heard.add((long) x.lose(s));
        }
    }

    private static void hearTexts(Bagatelle x, List<Long> heard) {
        for (int text = 0; text < 3; text++) {
            int left = 0;
            while (left >= 0) {
                int fault = x.fault(text);
                heard.add((long) fault);
                if (fault == NONE) {
                    hearLast(x, text, heard);
                }
                left = x.undo(text);
                heard.add((long) left);
            }
        }
    }

    private static void hearLast(Bagatelle x, int text, List<Long> heard) {
        if (text == 0) {
            int pin = x.count(0) - 1;
            for (int what = 0; what < 3; what++) {
                heard.add((long) x.pin(pin, what));
            }
        } else if (text == 1) {
            for (int column = 0; column < 9; column++) {
                heard.add((long) x.cup(column, 0));
            }
        } else {
            int ball = x.count(1) - 1;
            heard.add((long) x.ball(ball, 0));
            heard.add((long) x.ball(ball, 1));
        }
    }
}
