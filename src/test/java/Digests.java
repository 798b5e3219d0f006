import java.lang.reflect.InvocationTargetException;
import java.lang.reflect.Method;
import java.util.ArrayList;
import java.util.List;
import java.util.function.Supplier;

/** What digest() is told to be, made from the other calls alone. */
public final class Digests {
    /** A call by its name. */
    public interface Caller {
        long call(String name, int... args);
    }

    private final Caller on;
    private final List<Long> terms = new ArrayList<>();

    private Digests(Caller on) {
        this.on = on;
    }

    public static long of(Caller on) {
        long h = 17;
        for (long term : terms(on)) {
            h = 31 * h + term;
        }
        return h;
    }

    /** All that comes into it, in its order. */
    public static List<Long> terms(Caller on) {
        Digests d = new Digests(on);
        d.addBoard();
        for (int pin = 0; pin < on.call("count", 0); pin++) {
            d.addPin(pin);
        }
        for (int ball = 0; ball < on.call("count", 1); ball++) {
            d.addBall(ball);
        }
        d.addSums();
        return d.terms;
    }

    private void add(String name, int... args) {
        terms.add(on.call(name, args));
    }

    private void addBoard() {
        for (int what = 0; what <= 7; what++) {
            add("count", what);
        }
        for (int text = 0; text <= 2; text++) {
            add("fault", text);
        }
        for (int row = 0; row <= 7; row++) {
            for (int column = 0; column <= 8; column++) {
                add("sees", 9, row, column);
            }
        }
        for (int column = 0; column <= 8; column++) {
            for (int what = 0; what <= 2; what++) {
                add("cup", column, what);
            }
        }
    }

    private void addPin(int pin) {
        add("pin", pin, 0);
        add("pin", pin, 1);
        add("pin", pin, 2);
        add("bend", pin, 0);
        add("bend", pin, 1);
        add("kind", pin);
    }

    private void addBall(int ball) {
        add("ball", ball, 0);
        add("ball", ball, 1);
        for (int tick : new int[] {0, 6, 13, 23}) {
            add("at", tick, ball, 0);
            add("at", tick, ball, 1);
        }
        add("ends", ball, 0);
        add("ends", ball, 1);
        add("ends", ball, 2);
        add("shoot", ball, 0);
        add("shoot", ball, 1);
        add("time", ball, 0);
        add("time", ball, 1);
        add("forces", ball);
        add("ask", ball);
        add("chance", 5, ball, 0);
        add("chance", 5, ball, 1);
    }

    private void addSums() {
        add("sum", 0);
        add("sum", 1);
        add("sum", 2);
        add("late");
        add("best");
        add("jam", 0);
        add("jam", 1);
        add("spare", -1);
        add("spare", 0);
        add("never");
        add("sundays", 7, 9, 0);
        add("sundays", 7, 9, 1);
    }

    /** Asks an object of its own each time, as one that is told much may not be asked for all within its 512 calls. */
    public static Caller each(Supplier<?> state) {
        return (name, args) -> call(state.get(), name, args);
    }

    /** Calls a method of any object by its name. */
    public static long call(Object x, String name, int... args) {
        for (Method m : x.getClass().getMethods()) {
            if (m.getName().equals(name) && m.getParameterCount() == args.length) {
                Object[] boxed = new Object[args.length];
                for (int i = 0; i < args.length; i++) {
                    boxed[i] = args[i];
                }
                try {
                    return ((Number) m.invoke(x, boxed)).longValue();
                } catch (IllegalAccessException | InvocationTargetException e) {
                    throw new IllegalStateException(name, e);
                }
            }
        }
        throw new IllegalStateException("no call " + name);
    }
}
