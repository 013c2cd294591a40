/** Promise 2: addRecord. */
public final class AddRecordTest {
    private static final Checks CHECKS = new Checks();

    public static void main(String[] args) {
        countsEachSplit();
        badSplit();
        addsAtTheEnd();
        addsAfterEmptying();
        CHECKS.end();
    }

    private static void countsEachSplit() {
        MapReduceRun x = new MapReduceRun(1, 2);
        for (int n = 1; n <= 16; n++) {
            for (int split = 0; split < 4; split++) {
                CHECKS.due("addRecord number " + n + " to " + split, x.addRecord(split, split, 1), n);
            }
        }
        for (int split = 0; split < 4; split++) {
            CHECKS.due("addRecord to full split " + split, x.addRecord(split, split, 1), MapReduceRun.FULL);
            CHECKS.due("again to full split " + split, x.addRecord(split, split, 1), MapReduceRun.FULL);
        }
        CHECKS.due("run(TALLY)", x.run(MapReduceRun.TALLY), 4);
        CHECKS.dueOutput("full splits", x, Checks.part(0, 16, 1, 16, 2, 16, 3, 16));
        CHECKS.due("mapped()", x.mapped(), 64);
    }

    private static void badSplit() {
        MapReduceRun x = new MapReduceRun(1, 2);
        int[] bad = {-1, 4, 5, 64, Integer.MIN_VALUE, Integer.MAX_VALUE};
        for (int split : bad) {
            CHECKS.due("addRecord(" + split + ", 1, 1)", x.addRecord(split, 1, 1), MapReduceRun.BAD);
        }
        CHECKS.due("run after bad splits", x.run(MapReduceRun.TALLY), 0);
    }

    private static void addsAtTheEnd() {
        MapReduceRun x = new MapReduceRun(1, 2);
        x.addRecord(3, 0, 3);
        x.addRecord(0, 0, 1);
        x.addRecord(0, 0, 2);
        x.run(MapReduceRun.CHAIN);
        CHECKS.dueOutput("order", x, Checks.part(0, ((7 * 31 + 1) * 31 + 2) * 31 + 3));
    }

    private static void addsAfterEmptying() {
        MapReduceRun x = new MapReduceRun(1, 2);
        for (int n = 0; n < 17; n++) {
            x.addRecord(2, 1, 5);
        }
        x.emptySplit(2);
        CHECKS.due("addRecord after emptySplit", x.addRecord(2, 3, 4), 1);
        x.run(MapReduceRun.ADDED);
        CHECKS.dueOutput("after emptySplit", x, Checks.part(3, 4));
    }
}
