/** Promise 12: emptySplit. */
public final class EmptySplitTest {
    private static final Checks CHECKS = new Checks();

    public static void main(String[] args) {
        makesItEmpty();
        tellsHowManyThereWere();
        badSplit();
        badSplitChangesNothing();
        emptySplitStaysEmpty();
        onlyTheSplitChanges();
        CHECKS.end();
    }

    private static MapReduceRun filled(MapReduceRun x, int split, int records) {
        for (int n = 0; n < records; n++) {
            x.addRecord(split, n, n);
        }
        return x;
    }

    private static void makesItEmpty() {
        CHECKS.sentence("Makes a split empty");
        for (int split = 0; split < 4; split++) {
            MapReduceRun x = filled(new MapReduceRun(1, 2), split, 16);
            CHECKS.due("addRecord to full split " + split, x.addRecord(split, 1, 1), MapReduceRun.FULL);
            x.emptySplit(split);
            CHECKS.due("run without records", x.run(MapReduceRun.ADDED), 0);
            CHECKS.due("mapped() without records", x.mapped(), 0);
            for (int n = 1; n <= 16; n++) {
                CHECKS.due("addRecord after emptySplit(" + split + ")", x.addRecord(split, 1, 1), n);
            }
            CHECKS.due("addRecord to full split " + split, x.addRecord(split, 1, 1), MapReduceRun.FULL);
        }
    }

    private static void tellsHowManyThereWere() {
        CHECKS.sentence("answers how many records it had");
        for (int split = 0; split < 4; split++) {
            MapReduceRun x = new MapReduceRun(1, 2);
            for (int n = 0; n <= 17; n++) {
                CHECKS.due("emptySplit(" + split + ") of " + n, filled(x, split, n).emptySplit(split), Math.min(n, 16));
                CHECKS.due("emptySplit(" + split + ") again", x.emptySplit(split), 0);
            }
        }
    }

    private static void badSplit() {
        CHECKS.sentence("BAD for split outside 0..3");
        int[] splits = {Integer.MIN_VALUE, -4, -1, 0, 3, 4, 5, 16, Integer.MAX_VALUE};
        for (int split : splits) {
            int want = split >= 0 && split <= 3 ? 0 : -1;
            CHECKS.due("emptySplit(" + split + ")", new MapReduceRun(1, 2).emptySplit(split), want);
        }
    }

    private static void badSplitChangesNothing() {
        CHECKS.sentence("BAD for split outside 0..3");
        Twins twins = new Twins(CHECKS);
        for (int split : new int[] {Integer.MIN_VALUE, -1, 4, Integer.MAX_VALUE}) {
            twins.changesNothing("emptySplit(" + split + ")", MapReduceRun.BAD, x -> x.emptySplit(split));
        }
    }

    private static void emptySplitStaysEmpty() {
        CHECKS.sentence("answers how many records it had");
        Twins twins = new Twins(CHECKS);
        twins.changesNothing(Past.NEW, "emptySplit(0)", 0, x -> x.emptySplit(0));
        twins.changesNothing(Past.NEW, "emptySplit(3)", 0, x -> x.emptySplit(3));
        twins.changesNothing(Past.BUSY, "emptySplit(2)", 0, x -> x.emptySplit(2));
    }

    private static void onlyTheSplitChanges() {
        CHECKS.sentence("Makes a split empty");
        for (int split = 0; split < 4; split++) {
            MapReduceRun x = new MapReduceRun(1, 2);
            for (int s = 0; s < 4; s++) {
                filled(x, s, 2);
            }
            x.run(MapReduceRun.TALLY);
            x.failures(false, split, 3);
            x.failures(false, (split + 1) % 4, 3);
            x.failures(true, 0, 1);
            CHECKS.due("emptySplit(" + split + ")", x.emptySplit(split), 2);
            CHECKS.dueOutput("the output stays", x, Checks.part(0, 4, 1, 4));
            CHECKS.due("mapped() stays", x.mapped(), 8);
            CHECKS.due("the failures stay", x.run(MapReduceRun.TALLY), MapReduceRun.GIVEN_UP);
            x.run(MapReduceRun.TALLY);
            CHECKS.dueOutput("without split " + split, x, Checks.part(0, 3, 1, 3));
            for (int s = 0; s < 4; s++) {
                CHECKS.due("emptySplit(" + s + ") after emptySplit(" + split + ")", x.emptySplit(s), s == split ? 0 : 2);
            }
        }
    }
}
