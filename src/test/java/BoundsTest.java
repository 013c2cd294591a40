/** Promise 4: bounds. */
public final class BoundsTest {
    private static final Checks CHECKS = new Checks();
    private static final int LEAST = Integer.MIN_VALUE;
    private static final int GREATEST = Integer.MAX_VALUE;

    public static void main(String[] args) {
        boundsAreInside();
        valuesAreLookedAtBeforeMapping();
        anyInts();
        crossedBoundsDropAll();
        equalBoundsDropTheOthers();
        onlyJobsToCome();
        CHECKS.end();
    }

    private static MapReduceRun withValues(int... values) {
        MapReduceRun x = new MapReduceRun(1, 3);
        for (int i = 0; i < values.length; i++) {
            x.addRecord(0, i, values[i]);
        }
        return x;
    }

    private static void boundsAreInside() {
        CHECKS.sentence("Sets L and U");
        MapReduceRun x = withValues(-6, -5, -4, 0, 6, 7, 8);
        x.bounds(-5, 7);
        CHECKS.due("run within -5..7", x.run(MapReduceRun.ADDED), 5);
        CHECKS.dueOutput("within -5..7", x, Checks.part(1, -5, 2, -4, 3, 0, 4, 6, 5, 7));
        CHECKS.due("mapped within -5..7", x.mapped(), 5);
    }

    private static void valuesAreLookedAtBeforeMapping() {
        CHECKS.sentence("a record with key k and value v is DROPPED if v < L or v > U");
        MapReduceRun x = withValues(1, 10, 100);
        x.mapping(16, 10, 0);
        x.bounds(10, 99);
        x.run(MapReduceRun.ADDED);
        CHECKS.dueOutput("the record's value counts, not the pair's", x, Checks.part(1, 100));
    }

    private static void anyInts() {
        CHECKS.sentence("any ints");
        MapReduceRun x = withValues(LEAST, -1, 1, GREATEST);
        x.bounds(GREATEST, GREATEST);
        x.run(MapReduceRun.ADDED);
        CHECKS.dueOutput("the greatest alone", x, Checks.part(3, GREATEST));
        x.bounds(LEAST, LEAST);
        x.run(MapReduceRun.ADDED);
        CHECKS.dueOutput("the least alone", x, Checks.part(0, LEAST));
        x.bounds(LEAST + 1, GREATEST - 1);
        x.run(MapReduceRun.ADDED);
        CHECKS.dueOutput("neither", x, Checks.part(1, -1, 2, 1));
        x.bounds(LEAST, GREATEST);
        CHECKS.due("run within all", x.run(MapReduceRun.ADDED), 4);
    }

    private static void crossedBoundsDropAll() {
        CHECKS.sentence("with low > high all records are dropped");
        int[][] crossed = {{6, 5}, {1, 0}, {0, -1}, {7, 5}, {LEAST + 1, LEAST}, {GREATEST, GREATEST - 1}, {GREATEST, LEAST}};
        for (int[] c : crossed) {
            MapReduceRun x = withValues(LEAST, LEAST + 1, -1, 0, 1, 5, 6, 7, GREATEST - 1, GREATEST);
            x.run(MapReduceRun.TALLY);
            x.bounds(c[0], c[1]);
            String within = " within " + c[0] + ".." + c[1];
            CHECKS.due("run" + within, x.run(MapReduceRun.TALLY), 0);
            CHECKS.dueOutput(within, x, Checks.part());
            CHECKS.due("mapped" + within, x.mapped(), 0);
            CHECKS.due("the input stays", x.emptySplit(0), 10);
        }
    }

    private static void equalBoundsDropTheOthers() {
        CHECKS.sentence("with low > high all records are dropped");
        int[] values = {LEAST, LEAST + 1, -1, 0, 1, 5, 6, 7, GREATEST - 1, GREATEST};
        for (int i = 0; i < values.length; i++) {
            MapReduceRun x = withValues(values);
            x.bounds(values[i], values[i]);
            x.run(MapReduceRun.ADDED);
            CHECKS.dueOutput("low = high = " + values[i], x, Checks.part(i, values[i]));
        }
    }

    private static void onlyJobsToCome() {
        CHECKS.sentence("Sets L and U for jobs to come");
        MapReduceRun x = withValues(5, 6, 7);
        x.run(MapReduceRun.ADDED);
        x.bounds(6, 6);
        CHECKS.due("mapped before the next job", x.mapped(), 3);
        CHECKS.dueOutput("before the next job", x, Checks.part(0, 5, 1, 6, 2, 7));
        x.run(MapReduceRun.ADDED);
        CHECKS.dueOutput("the next job", x, Checks.part(1, 6));
        x.bounds(7, 7);
        x.bounds(5, 6);
        x.run(MapReduceRun.ADDED);
        CHECKS.dueOutput("the latest bounds count", x, Checks.part(0, 5, 1, 6));
    }
}
