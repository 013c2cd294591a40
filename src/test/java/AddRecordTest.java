/** Promise 2: addRecord. */
public final class AddRecordTest {
    private static final Checks CHECKS = new Checks();

    public static void main(String[] args) {
        addsAtTheEnd();
        badSplit();
        badSplitChangesNothing();
        fullSplit();
        fullSplitChangesNothing();
        answersTheNumberOfRecords();
        addsAfterEmptying();
        changesNoOutput();
        CHECKS.end();
    }

    private static void addsAtTheEnd() {
        CHECKS.sentence("Adds a record at the end of a split");
        MapReduceRun x = new MapReduceRun(1, 2);
        x.addRecord(3, 0, 3);
        x.addRecord(0, 0, 1);
        x.addRecord(0, 0, 2);
        x.run(MapReduceRun.CHAIN);
        CHECKS.dueOutput("order", x, Checks.part(0, ((7 * 31 + 1) * 31 + 2) * 31 + 3));
    }

    private static void badSplit() {
        CHECKS.sentence("split outside 0..3: BAD");
        int[] splits = {Integer.MIN_VALUE, -4, -1, 0, 3, 4, 5, 16, 64, Integer.MAX_VALUE};
        for (int split : splits) {
            int want = split >= 0 && split <= 3 ? 1 : -1;
            CHECKS.due("addRecord(" + split + ", 1, 1)", new MapReduceRun(1, 2).addRecord(split, 1, 1), want);
        }
    }

    private static void badSplitChangesNothing() {
        CHECKS.sentence("split outside 0..3: BAD");
        Twins twins = new Twins(CHECKS);
        for (int split : new int[] {Integer.MIN_VALUE, -1, 4, Integer.MAX_VALUE}) {
            twins.changesNothing("addRecord(" + split + ", 2, 3)", MapReduceRun.BAD, x -> x.addRecord(split, 2, 3));
        }
    }

    private static void fullSplit() {
        CHECKS.sentence("it has 16 records: FULL");
        for (int split = 0; split < 4; split++) {
            MapReduceRun x = new MapReduceRun(1, 2);
            for (int n = 0; n < 15; n++) {
                x.addRecord(split, 1, 1);
            }
            CHECKS.due("the sixteenth to " + split, x.addRecord(split, 1, 1), 16);
            CHECKS.due("the seventeenth to " + split, x.addRecord(split, 1, 1), -2);
            CHECKS.due("the eighteenth to " + split, x.addRecord(split, 1, 1), -2);
            CHECKS.due("to the split after it", x.addRecord((split + 1) % 4, 1, 1), 1);
        }
    }

    private static void fullSplitChangesNothing() {
        CHECKS.sentence("it has 16 records: FULL");
        Twins twins = new Twins(CHECKS);
        for (int split = 0; split < 4; split++) {
            int s = split;
            for (Past past : new Past[] {Past.ALL_SPLITS_FULL, Past.ALL_SPLITS_FULL_AND_FAILING}) {
                twins.changesNothing(past, "addRecord(" + s + ", 2, 3)", MapReduceRun.FULL, x -> x.addRecord(s, 2, 3));
            }
        }
    }

    private static void answersTheNumberOfRecords() {
        CHECKS.sentence("Else answers the split's number of records");
        MapReduceRun x = new MapReduceRun(1, 2);
        for (int n = 1; n <= 16; n++) {
            for (int split = 0; split < 4; split++) {
                CHECKS.due("addRecord number " + n + " to " + split, x.addRecord(split, split, 1), n);
            }
        }
        CHECKS.due("run(TALLY)", x.run(MapReduceRun.TALLY), 4);
        CHECKS.dueOutput("full splits", x, Checks.part(0, 16, 1, 16, 2, 16, 3, 16));
        CHECKS.due("mapped()", x.mapped(), 64);
    }

    private static void addsAfterEmptying() {
        CHECKS.sentence("Else answers the split's number of records");
        MapReduceRun x = new MapReduceRun(1, 2);
        for (int n = 0; n < 17; n++) {
            x.addRecord(2, 1, 5);
        }
        x.emptySplit(2);
        CHECKS.due("addRecord after emptySplit", x.addRecord(2, 3, 4), 1);
        x.run(MapReduceRun.ADDED);
        CHECKS.dueOutput("after emptySplit", x, Checks.part(3, 4));
    }

    private static void changesNoOutput() {
        CHECKS.sentence("Adds a record at the end of a split");
        MapReduceRun x = new MapReduceRun(1, 2);
        x.addRecord(0, 1, 2);
        x.run(MapReduceRun.ADDED);
        x.addRecord(0, 1, 3);
        CHECKS.dueOutput("the output before the next job", x, Checks.part(1, 2));
        CHECKS.due("mapped() before the next job", x.mapped(), 1);
    }
}
