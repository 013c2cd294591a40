/** Promise 4: bounds. */
public final class BoundsTest {
    private static final Checks CHECKS = new Checks();

    public static void main(String[] args) {
        boundsAreInside();
        valuesAreLookedAtBeforeMapping();
        extremeBounds();
        crossedBoundsDropAll();
        onlyJobsToCome();
        CHECKS.end();
    }

    private static MapReduceRun withValues(int... values) {
        MapReduceRun x = new MapReduceRun(1, 3);
        for (int i = 0; i < values.length; i++) {
            x.addRecord(0, i, values[i]);
        }
        return x;
    }

    private static void boundsAreInside() {
        MapReduceRun x = withValues(-6, -5, -4, 0, 6, 7, 8);
        x.bounds(-5, 7);
        CHECKS.due("run within -5..7", x.run(MapReduceRun.ADDED), 5);
        CHECKS.dueOutput("within -5..7", x, Checks.part(1, -5, 2, -4, 3, 0, 4, 6, 5, 7));
        CHECKS.due("mapped within -5..7", x.mapped(), 5);
        x.bounds(0, 0);
        CHECKS.due("run within 0..0", x.run(MapReduceRun.ADDED), 1);
        CHECKS.dueOutput("within 0..0", x, Checks.part(3, 0));
    }

    private static void valuesAreLookedAtBeforeMapping() {
        MapReduceRun x = withValues(1, 10, 100);
        x.mapping(16, 10, 0);
        x.bounds(10, 99);
        x.run(MapReduceRun.ADDED);
        CHECKS.dueOutput("the record's value counts", x, Checks.part(1, 100));
    }

    private static void extremeBounds() {
        MapReduceRun x = withValues(Integer.MIN_VALUE, -1, 1, Integer.MAX_VALUE);
        x.bounds(Integer.MAX_VALUE, Integer.MAX_VALUE);
        x.run(MapReduceRun.ADDED);
        CHECKS.dueOutput("the greatest alone", x, Checks.part(3, Integer.MAX_VALUE));
        x.bounds(Integer.MIN_VALUE, Integer.MIN_VALUE);
        x.run(MapReduceRun.ADDED);
        CHECKS.dueOutput("the least alone", x, Checks.part(0, Integer.MIN_VALUE));
        x.bounds(Integer.MIN_VALUE + 1, Integer.MAX_VALUE - 1);
        x.run(MapReduceRun.ADDED);
        CHECKS.dueOutput("neither", x, Checks.part(1, -1, 2, 1));
        x.bounds(Integer.MIN_VALUE, Integer.MAX_VALUE);
        CHECKS.due("run within all", x.run(MapReduceRun.ADDED), 4);
    }

    private static void crossedBoundsDropAll() {
        MapReduceRun x = withValues(5, 6, 7);
        x.bounds(6, 5);
        CHECKS.due("run within 6..5", x.run(MapReduceRun.TALLY), 0);
        CHECKS.due("mapped within 6..5", x.mapped(), 0);
        x.bounds(Integer.MAX_VALUE, Integer.MIN_VALUE);
        CHECKS.due("run within nothing", x.run(MapReduceRun.TALLY), 0);
        CHECKS.due("the input stays", x.emptySplit(0), 3);
    }

    private static void onlyJobsToCome() {
        MapReduceRun x = withValues(5, 6, 7);
        x.run(MapReduceRun.ADDED);
        x.bounds(6, 6);
        CHECKS.due("mapped before the next job", x.mapped(), 3);
        CHECKS.dueOutput("before the next job", x, Checks.part(0, 5, 1, 6, 2, 7));
        x.run(MapReduceRun.ADDED);
        CHECKS.dueOutput("the next job", x, Checks.part(1, 6));
    }
}
