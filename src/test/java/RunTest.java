/** Promise 6: run. */
public final class RunTest {
    private static final Checks CHECKS = new Checks();
    private static final int[] OUTSIDE = {Integer.MIN_VALUE, -3, -2, -1, 5, 6, Integer.MAX_VALUE};

    public static void main(String[] args) {
        eachReducer();
        wholeInput();
        anyOtherReducer();
        anyOtherReducerKeepsOutputAndFailures();
        anyOtherReducerChangesNothing();
        resultsReplaceTheOutput();
        olderJobsDoNotShow();
        answersTheNumberOfResults();
        answersGivenUp();
        inputStays();
        inputStaysWhenGivenUp();
        settingsStay();
        CHECKS.end();
    }

    private static void eachReducer() {
        CHECKS.sentence("Runs a job with a reducer (0..4)");
        MapReduceRun x = new MapReduceRun(2, 2);
        x.addRecord(0, 1, 5);
        x.addRecord(0, 2, -8);
        x.addRecord(0, 1, -3);
        x.addRecord(2, 17, 4);
        x.addRecord(3, 2, -9);
        CHECKS.due("run(ADDED)", x.run(0), 2);
        CHECKS.dueOutput("ADDED", x, Checks.part(2, -17), Checks.part(1, 6));
        CHECKS.due("run(LARGEST)", x.run(1), 2);
        CHECKS.dueOutput("LARGEST", x, Checks.part(2, -8), Checks.part(1, 5));
        CHECKS.due("run(SMALLEST)", x.run(2), 2);
        CHECKS.dueOutput("SMALLEST", x, Checks.part(2, -9), Checks.part(1, -3));
        CHECKS.due("run(TALLY)", x.run(3), 2);
        CHECKS.dueOutput("TALLY", x, Checks.part(2, 2), Checks.part(1, 3));
        CHECKS.due("run(CHAIN)", x.run(4), 2);
        CHECKS.dueOutput("CHAIN", x, Checks.part(2, (7 * 31 - 8) * 31 - 9), Checks.part(1, ((7 * 31 + 5) * 31 - 3) * 31 + 4));
    }

    private static void wholeInput() {
        CHECKS.sentence("on the whole input");
        for (int split = 0; split < 4; split++) {
            MapReduceRun x = new MapReduceRun(1, 2);
            x.addRecord(split, 1, 9);
            CHECKS.due("run with a record in split " + split + " alone", x.run(MapReduceRun.ADDED), 1);
            CHECKS.dueOutput("split " + split + " alone", x, Checks.part(1, 9));
        }
        MapReduceRun x = new MapReduceRun(1, 7);
        for (int n = 0; n < 64; n++) {
            x.addRecord(n % 4, 5, n);
        }
        x.run(MapReduceRun.ADDED);
        CHECKS.dueOutput("four full splits", x, Checks.part(5, 2016));
    }

    private static void anyOtherReducer() {
        CHECKS.sentence("Any other reducer: BAD");
        for (int reducer : OUTSIDE) {
            CHECKS.due("run(" + reducer + ")", new MapReduceRun(1, 2).run(reducer), -1);
        }
        CHECKS.due("run(0)", new MapReduceRun(1, 2).run(0), 0);
        CHECKS.due("run(4)", new MapReduceRun(1, 2).run(4), 0);
    }

    private static void anyOtherReducerKeepsOutputAndFailures() {
        CHECKS.sentence("Any other reducer: BAD, and nothing changes");
        for (int reducer : OUTSIDE) {
            MapReduceRun x = new MapReduceRun(1, 2);
            x.addRecord(0, 1, 2);
            x.run(MapReduceRun.ADDED);
            x.addRecord(0, 3, 4);
            x.failures(false, 0, 3);
            x.failures(false, 1, 3);
            x.failures(true, 0, 1);
            CHECKS.due("run(" + reducer + ") with seven failures", x.run(reducer), MapReduceRun.BAD);
            CHECKS.dueOutput("the output after run(" + reducer + ")", x, Checks.part(1, 2));
            CHECKS.due("mapped() after run(" + reducer + ")", x.mapped(), 1);
            CHECKS.due("the failures are still to come", x.run(MapReduceRun.ADDED), MapReduceRun.GIVEN_UP);
            CHECKS.due("the input is still there", x.emptySplit(0), 2);
        }
    }

    private static void anyOtherReducerChangesNothing() {
        CHECKS.sentence("Any other reducer: BAD, and nothing changes");
        Twins twins = new Twins(CHECKS);
        for (int reducer : OUTSIDE) {
            twins.changesNothing("run(" + reducer + ")", MapReduceRun.BAD, x -> x.run(reducer));
        }
    }

    private static void resultsReplaceTheOutput() {
        CHECKS.sentence("Else its results replace the output");
        MapReduceRun x = new MapReduceRun(2, 2);
        x.addRecord(0, 1, 1);
        x.addRecord(0, 2, 2);
        x.addRecord(0, 4, 4);
        x.run(MapReduceRun.ADDED);
        CHECKS.dueOutput("the first job", x, Checks.part(2, 2, 4, 4), Checks.part(1, 1));
        x.bounds(4, 4);
        CHECKS.due("the second job", x.run(MapReduceRun.ADDED), 1);
        CHECKS.dueOutput("the second job", x, Checks.part(4, 4), Checks.part());
        x.emptySplit(0);
        CHECKS.due("the third job", x.run(MapReduceRun.ADDED), 0);
        CHECKS.dueOutput("the third job", x, Checks.part(), Checks.part());
    }

    private static void olderJobsDoNotShow() {
        CHECKS.sentence("Else its results replace the output");
        for (int parts = 1; parts <= 4; parts++) {
            for (int modulus = 1; modulus <= 16; modulus++) {
                for (int records = 0; records <= 12; records += 3) {
                    smallJobAfterABigOne(parts, modulus, records);
                }
            }
        }
    }

    private static void smallJobAfterABigOne(int parts, int modulus, int records) {
        MapReduceRun old = new MapReduceRun(parts, 3);
        old.mapping(modulus, 1, 0);
        for (int n = 0; n < 64; n++) {
            old.addRecord(n / 16, 7 * n, 1000 + n);
        }
        old.run(MapReduceRun.ADDED);
        for (int split = 0; split < 4; split++) {
            old.emptySplit(split);
        }
        MapReduceRun fresh = new MapReduceRun(parts, 3);
        fresh.mapping(modulus, 1, 0);
        for (int n = 0; n < records; n++) {
            old.addRecord(n % 4, 5 * n, n);
            fresh.addRecord(n % 4, 5 * n, n);
        }
        String call = "run with " + records + " records, " + parts + " parts and modulus " + modulus + " after a bigger job";
        CHECKS.due(call, old.run(MapReduceRun.CHAIN), fresh.run(MapReduceRun.CHAIN));
        CHECKS.due(call + ", mapped()", old.mapped(), records);
        for (int part = 0; part < parts; part++) {
            for (int i = 0; i <= 16; i++) {
                CHECKS.due(call + ", keyAt(" + part + ", " + i + ")", old.keyAt(part, i), fresh.keyAt(part, i));
                CHECKS.due(call + ", valueAt(" + part + ", " + i + ")", old.valueAt(part, i), fresh.valueAt(part, i));
            }
        }
    }

    private static void answersTheNumberOfResults() {
        CHECKS.sentence("answers the number of results (of keys)");
        for (int parts = 1; parts <= 4; parts++) {
            MapReduceRun x = new MapReduceRun(parts, 2);
            CHECKS.due("run without records, " + parts + " parts", x.run(MapReduceRun.TALLY), 0);
            for (int n = 1; n <= 16; n++) {
                x.addRecord(n % 4, 5 * n, 1);
                x.addRecord(3 - n % 4, 5 * n - 16, 1);
                CHECKS.due("run with " + n + " keys, " + parts + " parts", x.run(MapReduceRun.TALLY), n);
            }
            x.addRecord(2, 1, 1);
            CHECKS.due("run with all keys, " + parts + " parts", x.run(MapReduceRun.TALLY), 16);
        }
    }

    private static void answersGivenUp() {
        CHECKS.sentence("or GIVEN_UP");
        MapReduceRun x = new MapReduceRun(2, 2);
        x.addRecord(0, 1, 1);
        x.addRecord(1, 2, 2);
        x.failures(false, 3, 3);
        x.failures(true, 0, 3);
        CHECKS.due("run with six failures", x.run(MapReduceRun.ADDED), 2);
        x.failures(false, 3, 3);
        x.failures(true, 0, 3);
        x.failures(true, 1, 1);
        CHECKS.due("run with seven failures", x.run(MapReduceRun.ADDED), -3);
        CHECKS.dueOutput("given up", x, Checks.part(), Checks.part());
        CHECKS.due("the next run", x.run(MapReduceRun.ADDED), 2);
        CHECKS.dueOutput("the next run", x, Checks.part(2, 2), Checks.part(1, 1));
    }

    private static void inputStays() {
        CHECKS.sentence("The input stays");
        MapReduceRun x = new MapReduceRun(1, 2);
        x.addRecord(0, 5, 1);
        x.addRecord(0, 3, 2);
        x.addRecord(0, 5, 3);
        x.mapping(3, 2, 1);
        x.run(MapReduceRun.CHAIN);
        x.mapping(16, 1, 0);
        x.run(MapReduceRun.CHAIN);
        CHECKS.dueOutput("the unchanged input", x, Checks.part(3, 7 * 31 + 2, 5, (7 * 31 + 1) * 31 + 3));
        CHECKS.due("the records", x.emptySplit(0), 3);
    }

    private static void inputStaysWhenGivenUp() {
        CHECKS.sentence("The input stays");
        MapReduceRun x = new MapReduceRun(1, 2);
        for (int split = 0; split < 4; split++) {
            x.addRecord(split, 5, split);
            x.failures(false, split, 2);
        }
        CHECKS.due("run with eight failures", x.run(MapReduceRun.CHAIN), MapReduceRun.GIVEN_UP);
        CHECKS.due("the next run", x.run(MapReduceRun.ADDED), 1);
        CHECKS.dueOutput("the next run", x, Checks.part(5, 6));
        for (int split = 0; split < 4; split++) {
            CHECKS.due("emptySplit(" + split + ")", x.emptySplit(split), 1);
        }
    }

    private static void settingsStay() {
        CHECKS.sentence("for jobs to come");
        MapReduceRun x = new MapReduceRun(1, 2);
        x.addRecord(0, 5, 1);
        x.addRecord(0, 5, 9);
        x.addRecord(0, 5, -1);
        x.mapping(3, 2, 1);
        x.bounds(0, 8);
        for (int n = 0; n < 3; n++) {
            x.run(MapReduceRun.ADDED);
            CHECKS.dueOutput("job " + n, x, Checks.part(2, 3));
            x.failures(false, 0, 3);
            x.failures(false, 1, 3);
            x.failures(false, 2, 1);
            CHECKS.due("a job that is given up", x.run(MapReduceRun.ADDED), MapReduceRun.GIVEN_UP);
        }
    }
}
