/** Promise 11: feedBack. */
public final class FeedBackTest {
    private static final Checks CHECKS = new Checks();

    public static void main(String[] args) {
        partsBecomeSplits();
        orderWithinASplit();
        keysAndValuesAsTheyAre();
        otherSplitsBecomeEmpty();
        emptyPartsEmptyTheirSplits();
        outputStays();
        answersTheNumberOfRecords();
        beforeAnyJob();
        afterGivingUp();
        fullPart();
        settingsAndFailuresStay();
        mappedStays();
        CHECKS.end();
    }

    private static void partsBecomeSplits() {
        CHECKS.sentence("every part's results, in order, become the records of the split with the part's number");
        MapReduceRun x = new MapReduceRun(3, 2);
        for (int key = 0; key < 8; key++) {
            x.addRecord(3, key, 10 * key);
            x.addRecord(key % 3, key, 1);
        }
        CHECKS.due("run(ADDED)", x.run(MapReduceRun.ADDED), 8);
        CHECKS.due("feedBack()", x.feedBack(), 8);
        x.run(MapReduceRun.ADDED);
        CHECKS.dueOutput("a job on it", x, Checks.part(0, 1, 3, 31, 6, 61), Checks.part(1, 11, 4, 41, 7, 71),
                Checks.part(2, 21, 5, 51));
        CHECKS.due("emptySplit(0)", x.emptySplit(0), 3);
        CHECKS.due("emptySplit(1)", x.emptySplit(1), 3);
        CHECKS.due("emptySplit(2)", x.emptySplit(2), 2);
        CHECKS.due("emptySplit(3)", x.emptySplit(3), 0);
    }

    private static void orderWithinASplit() {
        CHECKS.sentence("in order");
        MapReduceRun x = new MapReduceRun(2, 2);
        for (int key = 5; key >= 0; key--) {
            x.addRecord(3, key, key + 1);
        }
        x.run(MapReduceRun.ADDED);
        x.feedBack();
        x.mapping(1, 1, 0);
        x.run(MapReduceRun.CHAIN);
        int want = 7;
        for (int value : new int[] {1, 3, 5, 2, 4, 6}) {
            want = 31 * want + value;
        }
        CHECKS.dueOutput("chained part by part", x, Checks.part(0, want), Checks.part());
    }

    private static void keysAndValuesAsTheyAre() {
        CHECKS.sentence("Makes the output the new input");
        MapReduceRun x = new MapReduceRun(1, 2);
        x.addRecord(0, -1, Integer.MIN_VALUE);
        x.addRecord(0, 16, Integer.MAX_VALUE);
        x.addRecord(1, 3, 5);
        x.bounds(Integer.MIN_VALUE, Integer.MAX_VALUE);
        x.run(MapReduceRun.ADDED);
        x.bounds(7, 6);
        x.mapping(2, 9, 9);
        CHECKS.due("feedBack() drops and maps nothing", x.feedBack(), 3);
        x.bounds(Integer.MIN_VALUE, Integer.MAX_VALUE);
        x.mapping(16, 1, 0);
        x.run(MapReduceRun.ADDED);
        CHECKS.dueOutput("a job on it", x, Checks.part(0, Integer.MAX_VALUE, 3, 5, 15, Integer.MIN_VALUE));
    }

    private static void otherSplitsBecomeEmpty() {
        CHECKS.sentence("all other splits become empty");
        for (int parts = 1; parts <= 4; parts++) {
            MapReduceRun x = new MapReduceRun(parts, 2);
            for (int n = 0; n < 64; n++) {
                x.addRecord(n % 4, n, n);
            }
            x.run(MapReduceRun.TALLY);
            CHECKS.due("feedBack() with " + parts + " parts", x.feedBack(), 16);
            for (int split = 0; split < 4; split++) {
                int want = split < parts ? (15 - split) / parts + 1 : 0;
                CHECKS.due("emptySplit(" + split + ") with " + parts + " parts", x.emptySplit(split), want);
            }
        }
    }

    private static void emptyPartsEmptyTheirSplits() {
        CHECKS.sentence("every part's results, in order, become the records of the split with the part's number");
        MapReduceRun x = new MapReduceRun(4, 2);
        for (int n = 0; n < 64; n++) {
            x.addRecord(n % 4, 2, n);
        }
        x.run(MapReduceRun.TALLY);
        CHECKS.due("feedBack() of one result", x.feedBack(), 1);
        x.run(MapReduceRun.ADDED);
        CHECKS.dueOutput("a job on it", x, Checks.part(), Checks.part(), Checks.part(2, 64), Checks.part());
        for (int split = 0; split < 4; split++) {
            CHECKS.due("emptySplit(" + split + ")", x.emptySplit(split), split == 2 ? 1 : 0);
        }
    }

    private static void outputStays() {
        CHECKS.sentence("The output stays");
        MapReduceRun x = new MapReduceRun(2, 2);
        x.addRecord(0, 5, 3);
        x.addRecord(0, 6, 4);
        x.run(MapReduceRun.ADDED);
        x.feedBack();
        CHECKS.dueOutput("the output after feedBack()", x, Checks.part(6, 4), Checks.part(5, 3));
        x.emptySplit(0);
        x.addRecord(1, 7, 7);
        CHECKS.dueOutput("the output after changes of the input", x, Checks.part(6, 4), Checks.part(5, 3));
        CHECKS.due("feedBack() again", x.feedBack(), 2);
        x.run(MapReduceRun.ADDED);
        CHECKS.dueOutput("the output fed back again", x, Checks.part(6, 4), Checks.part(5, 3));
    }

    private static void answersTheNumberOfRecords() {
        CHECKS.sentence("Answers the number of records that the input then has");
        for (int parts = 1; parts <= 4; parts++) {
            MapReduceRun x = new MapReduceRun(parts, 2);
            x.run(MapReduceRun.ADDED);
            CHECKS.due("feedBack() of an empty job", x.feedBack(), 0);
            for (int n = 1; n <= 16; n++) {
                x.addRecord(3, n, 1);
                x.addRecord(2, n - 16, 1);
                x.run(MapReduceRun.ADDED);
                CHECKS.due("feedBack() of " + n + " results in " + parts + " parts", x.feedBack(), n);
                int had = 0;
                for (int split = 0; split < 4; split++) {
                    had += x.emptySplit(split);
                }
                CHECKS.due("the records in the splits", had, n);
                x.feedBack();
            }
        }
    }

    private static void beforeAnyJob() {
        CHECKS.sentence("Makes the output the new input");
        MapReduceRun x = new MapReduceRun(4, 2);
        for (int split = 0; split < 4; split++) {
            x.addRecord(split, 1, 1);
        }
        CHECKS.due("feedBack() before any job", x.feedBack(), 0);
        for (int split = 0; split < 4; split++) {
            CHECKS.due("emptySplit(" + split + ")", x.emptySplit(split), 0);
        }
    }

    private static void afterGivingUp() {
        CHECKS.sentence("Makes the output the new input");
        MapReduceRun x = new MapReduceRun(1, 2);
        x.addRecord(0, 1, 1);
        x.addRecord(3, 1, 1);
        x.run(MapReduceRun.ADDED);
        x.failures(false, 0, 3);
        x.failures(false, 1, 3);
        x.failures(false, 2, 1);
        CHECKS.due("the job", x.run(MapReduceRun.ADDED), MapReduceRun.GIVEN_UP);
        CHECKS.due("feedBack() after a given up job", x.feedBack(), 0);
        CHECKS.due("emptySplit(0)", x.emptySplit(0), 0);
        CHECKS.due("emptySplit(3)", x.emptySplit(3), 0);
    }

    private static void fullPart() {
        CHECKS.sentence("every part's results, in order, become the records of the split with the part's number");
        MapReduceRun x = new MapReduceRun(1, 8);
        for (int key = 0; key < 16; key++) {
            x.addRecord(key % 4, key, key);
        }
        x.run(MapReduceRun.ADDED);
        CHECKS.due("feedBack() of sixteen", x.feedBack(), 16);
        CHECKS.due("addRecord to the full split", x.addRecord(0, 1, 1), MapReduceRun.FULL);
        CHECKS.due("addRecord to the split beside it", x.addRecord(1, 1, 100), 1);
        x.run(MapReduceRun.ADDED);
        CHECKS.due("valueAt(0, 1)", x.valueAt(0, 1), 101);
        CHECKS.due("valueAt(0, 15)", x.valueAt(0, 15), 15);
    }

    private static void settingsAndFailuresStay() {
        CHECKS.sentence("Makes the output the new input");
        MapReduceRun x = new MapReduceRun(1, 2);
        x.addRecord(2, 5, 3);
        x.addRecord(2, 5, 20);
        x.addRecord(2, 5, -1);
        x.mapping(4, 2, 1);
        x.bounds(0, 7);
        x.run(MapReduceRun.ADDED);
        x.failures(false, 0, 3);
        x.failures(false, 1, 3);
        x.failures(true, 0, 1);
        CHECKS.due("feedBack()", x.feedBack(), 1);
        CHECKS.due("the failures stay", x.run(MapReduceRun.ADDED), MapReduceRun.GIVEN_UP);
        x.addRecord(3, 6, 0);
        x.addRecord(3, 6, 7);
        x.addRecord(3, 7, -1);
        x.addRecord(3, 7, 8);
        x.run(MapReduceRun.ADDED);
        CHECKS.dueOutput("the mapping and the bounds stay", x, Checks.part(1, 15, 2, 16));
    }

    private static void mappedStays() {
        CHECKS.sentence("Makes the output the new input");
        MapReduceRun x = new MapReduceRun(2, 2);
        for (int n = 0; n < 9; n++) {
            x.addRecord(1, n % 3, n);
        }
        x.run(MapReduceRun.ADDED);
        CHECKS.due("feedBack()", x.feedBack(), 3);
        CHECKS.due("mapped() of the job before", x.mapped(), 9);
        x.run(MapReduceRun.ADDED);
        CHECKS.due("mapped() of the job on it", x.mapped(), 3);
    }
}
