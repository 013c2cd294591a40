/** Promises 7, 8 and 9: results, keyAt and valueAt. */
public final class ResultsTest {
    private static final Checks CHECKS = new Checks();
    private static final int[] OUTSIDE = {Integer.MIN_VALUE, -16, -1, 16, 17, 64, Integer.MAX_VALUE};

    public static void main(String[] args) {
        eachPart();
        partsThatAreNotThere();
        resultsThatAreNotThere();
        oldResultsAreGone();
        fullPart();
        CHECKS.end();
    }

    private static MapReduceRun threeParts() {
        MapReduceRun x = new MapReduceRun(3, 2);
        x.addRecord(1, 9, 90);
        x.addRecord(1, 1, 10);
        x.addRecord(0, 3, 30);
        x.run(MapReduceRun.ADDED);
        return x;
    }

    private static void eachPart() {
        MapReduceRun x = threeParts();
        CHECKS.due("results(0)", x.results(0), 2);
        CHECKS.due("results(1)", x.results(1), 1);
        CHECKS.due("results(2)", x.results(2), 0);
        CHECKS.due("keyAt(0, 0)", x.keyAt(0, 0), 3);
        CHECKS.due("keyAt(0, 1)", x.keyAt(0, 1), 9);
        CHECKS.due("keyAt(1, 0)", x.keyAt(1, 0), 1);
        CHECKS.due("valueAt(0, 0)", x.valueAt(0, 0), 30);
        CHECKS.due("valueAt(0, 1)", x.valueAt(0, 1), 90);
        CHECKS.due("valueAt(1, 0)", x.valueAt(1, 0), 10);
    }

    private static void partsThatAreNotThere() {
        MapReduceRun x = threeParts();
        int[] parts = {Integer.MIN_VALUE, -1, 3, 4, 5, Integer.MAX_VALUE};
        for (int part : parts) {
            CHECKS.due("results(" + part + ")", x.results(part), MapReduceRun.BAD);
            for (int i = -1; i <= 16; i++) {
                CHECKS.due("keyAt(" + part + ", " + i + ")", x.keyAt(part, i), MapReduceRun.BAD);
                CHECKS.due("valueAt(" + part + ", " + i + ")", x.valueAt(part, i), 0);
            }
        }
    }

    private static void resultsThatAreNotThere() {
        MapReduceRun x = threeParts();
        for (int part = 0; part < 3; part++) {
            for (int i = x.results(part); i < 16; i++) {
                noneAt(x, part, i);
            }
            for (int i : OUTSIDE) {
                noneAt(x, part, i);
            }
        }
    }

    private static void noneAt(MapReduceRun x, int part, int i) {
        CHECKS.due("keyAt(" + part + ", " + i + ")", x.keyAt(part, i), MapReduceRun.BAD);
        CHECKS.due("valueAt(" + part + ", " + i + ")", x.valueAt(part, i), 0);
    }

    private static void oldResultsAreGone() {
        MapReduceRun x = threeParts();
        x.bounds(30, 30);
        x.run(MapReduceRun.ADDED);
        CHECKS.due("results(0) of the smaller job", x.results(0), 1);
        noneAt(x, 0, 1);
        noneAt(x, 1, 0);
    }

    private static void fullPart() {
        MapReduceRun x = new MapReduceRun(1, 8);
        for (int key = 0; key < 16; key++) {
            x.addRecord(key / 4, 15 - key, key);
        }
        x.run(MapReduceRun.ADDED);
        CHECKS.due("results(0) of the full part", x.results(0), 16);
        for (int i = 0; i < 16; i++) {
            CHECKS.due("keyAt(0, " + i + ")", x.keyAt(0, i), i);
            CHECKS.due("valueAt(0, " + i + ")", x.valueAt(0, i), 15 - i);
        }
        for (int i : OUTSIDE) {
            noneAt(x, 0, i);
        }
    }
}
