/** Promise 12: emptySplit. */
public final class EmptySplitTest {
    private static final Checks CHECKS = new Checks();

    public static void main(String[] args) {
        tellsHowManyThereWere();
        badSplit();
        othersStay();
        CHECKS.end();
    }

    private static void tellsHowManyThereWere() {
        for (int split = 0; split < 4; split++) {
            MapReduceRun x = new MapReduceRun(1, 2);
            for (int n = 0; n <= 16; n++) {
                CHECKS.due("emptySplit(" + split + ") of " + n, filled(x, split, n).emptySplit(split), n);
                CHECKS.due("emptySplit(" + split + ") again", x.emptySplit(split), 0);
            }
        }
    }

    private static MapReduceRun filled(MapReduceRun x, int split, int records) {
        for (int n = 0; n < records; n++) {
            x.addRecord(split, n, n);
        }
        return x;
    }

    private static void badSplit() {
        MapReduceRun x = filled(new MapReduceRun(1, 2), 0, 3);
        int[] bad = {Integer.MIN_VALUE, -1, 4, 5, 16, Integer.MAX_VALUE};
        for (int split : bad) {
            CHECKS.due("emptySplit(" + split + ")", x.emptySplit(split), MapReduceRun.BAD);
        }
        CHECKS.due("run after bad splits", x.run(MapReduceRun.ADDED), 3);
    }

    private static void othersStay() {
        for (int split = 0; split < 4; split++) {
            MapReduceRun x = new MapReduceRun(1, 2);
            for (int s = 0; s < 4; s++) {
                filled(x, s, 2);
            }
            x.run(MapReduceRun.TALLY);
            x.failures(false, split, 3);
            x.failures(false, (split + 1) % 4, 3);
            x.failures(true, 0, 1);
            CHECKS.due("emptySplit(" + split + ")", x.emptySplit(split), 2);
            CHECKS.dueOutput("the output stays", x, Checks.part(0, 4, 1, 4));
            CHECKS.due("the failures stay", x.run(MapReduceRun.TALLY), MapReduceRun.GIVEN_UP);
            x.run(MapReduceRun.TALLY);
            CHECKS.dueOutput("without split " + split, x, Checks.part(0, 3, 1, 3));
        }
    }
}
