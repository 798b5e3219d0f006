import java.util.Set;
import java.util.TreeSet;

/** Each sentence of the document that names a bound, by a test of its own, named after its promise. */
public final class BoundsTest extends Asked {
    private static final int PROMISES = 39;
    private static final Class<?>[] CASES = {TextBounds.class, EventBounds.class, TickBounds.class,
        PlanBounds.class, SeenBounds.class, SheetBounds.class, OrderBounds.class};

    public static void main(String[] args) {
        Set<Integer> promises = new TreeSet<>();
        for (Class<?> cases : CASES) {
            promises.addAll(runPromises(cases));
        }
        for (int promise = 1; promise <= PROMISES; promise++) {
            dueTrue("there is a test of promise " + promise, promises.contains(promise));
        }
        finish();
    }
}
