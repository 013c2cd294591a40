/** Promise 11: feedBack. */
public final class FeedBackTest {
    private static final Checks CHECKS = new Checks();

    public static void main(String[] args) {
        partsBecomeSplits();
        orderWithinASplit();
        emptyOutput();
        givenUpOutput();
        fullPart();
        settingsAndFailuresStay();
        outputIsItsOwn();
        CHECKS.end();
    }

    private static void partsBecomeSplits() {
        MapReduceRun x = new MapReduceRun(3, 2);
        for (int key = 0; key < 8; key++) {
            x.addRecord(3, key, 10 * key);
            x.addRecord(key % 3, key, 1);
        }
        CHECKS.due("run(ADDED)", x.run(MapReduceRun.ADDED), 8);
        CHECKS.due("feedBack()", x.feedBack(), 8);
        CHECKS.dueOutput("the output stays", x, Checks.part(0, 1, 3, 31, 6, 61), Checks.part(1, 11, 4, 41, 7, 71),
                Checks.part(2, 21, 5, 51));
        CHECKS.due("mapped() stays", x.mapped(), 16);
        x.run(MapReduceRun.ADDED);
        CHECKS.dueOutput("a job on it", x, Checks.part(0, 1, 3, 31, 6, 61), Checks.part(1, 11, 4, 41, 7, 71),
                Checks.part(2, 21, 5, 51));
        CHECKS.due("emptySplit(0)", x.emptySplit(0), 3);
        CHECKS.due("emptySplit(1)", x.emptySplit(1), 3);
        CHECKS.due("emptySplit(2)", x.emptySplit(2), 2);
        CHECKS.due("emptySplit(3)", x.emptySplit(3), 0);
    }

    private static void orderWithinASplit() {
        MapReduceRun x = new MapReduceRun(2, 2);
        for (int key = 5; key >= 0; key--) {
            x.addRecord(3, key, key + 1);
        }
        x.run(MapReduceRun.ADDED);
        x.feedBack();
        x.mapping(1, 1, 0);
        x.run(MapReduceRun.CHAIN);
        int want = 7;
        for (int value : new int[] {1, 3, 5, 2, 4, 6}) {
            want = 31 * want + value;
        }
        CHECKS.dueOutput("chained part by part", x, Checks.part(0, want), Checks.part());
    }

    private static void emptyOutput() {
        MapReduceRun x = new MapReduceRun(4, 2);
        for (int split = 0; split < 4; split++) {
            x.addRecord(split, 1, 1);
        }
        CHECKS.due("feedBack() before any job", x.feedBack(), 0);
        for (int split = 0; split < 4; split++) {
            CHECKS.due("emptySplit(" + split + ")", x.emptySplit(split), 0);
        }
    }

    private static void givenUpOutput() {
        MapReduceRun x = new MapReduceRun(1, 2);
        x.addRecord(0, 1, 1);
        x.run(MapReduceRun.ADDED);
        x.failures(false, 0, 3);
        x.failures(false, 1, 3);
        x.failures(false, 2, 3);
        x.run(MapReduceRun.ADDED);
        CHECKS.due("feedBack() after a given up job", x.feedBack(), 0);
        CHECKS.due("emptySplit(0)", x.emptySplit(0), 0);
    }

    private static void fullPart() {
        MapReduceRun x = new MapReduceRun(1, 8);
        for (int key = 0; key < 16; key++) {
            x.addRecord(key % 4, key, key);
        }
        x.run(MapReduceRun.ADDED);
        CHECKS.due("feedBack() of sixteen", x.feedBack(), 16);
        CHECKS.due("addRecord to the full split", x.addRecord(0, 1, 1), MapReduceRun.FULL);
        CHECKS.due("addRecord to the split beside it", x.addRecord(1, 1, 100), 1);
        x.run(MapReduceRun.ADDED);
        CHECKS.due("valueAt(0, 1)", x.valueAt(0, 1), 101);
        CHECKS.due("valueAt(0, 15)", x.valueAt(0, 15), 15);
    }

    private static void settingsAndFailuresStay() {
        MapReduceRun x = new MapReduceRun(1, 2);
        x.addRecord(2, 5, 3);
        x.mapping(4, 2, 1);
        x.bounds(0, 7);
        x.run(MapReduceRun.ADDED);
        x.failures(false, 0, 3);
        x.failures(false, 1, 3);
        x.failures(true, 0, 1);
        CHECKS.due("feedBack()", x.feedBack(), 1);
        CHECKS.due("the failures stay", x.run(MapReduceRun.ADDED), MapReduceRun.GIVEN_UP);
        x.run(MapReduceRun.ADDED);
        CHECKS.dueOutput("the mapping stays", x, Checks.part(1, 15));
        x.feedBack();
        CHECKS.due("the bounds stay", x.run(MapReduceRun.ADDED), 0);
    }

    private static void outputIsItsOwn() {
        MapReduceRun x = new MapReduceRun(1, 2);
        x.addRecord(0, 5, 3);
        x.run(MapReduceRun.ADDED);
        x.feedBack();
        x.emptySplit(0);
        x.addRecord(0, 6, 4);
        CHECKS.dueOutput("the output after changes of the input", x, Checks.part(5, 3));
        CHECKS.due("feedBack() again", x.feedBack(), 1);
        x.run(MapReduceRun.ADDED);
        CHECKS.dueOutput("the output fed back again", x, Checks.part(5, 3));
    }
}
