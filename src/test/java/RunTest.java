/** Promise 6: run, and the terms' rules for results, parts and a job that is given up. */
public final class RunTest {
    private static final Checks CHECKS = new Checks();

    public static void main(String[] args) {
        eachReducer();
        extremeValues();
        chainGoesSplitBySplit();
        keysGoToTheirParts();
        badReducerChangesNothing();
        resultsReplaceTheOutput();
        givenUpJob();
        inputStays();
        CHECKS.end();
    }

    private static void eachReducer() {
        MapReduceRun x = new MapReduceRun(2, 2);
        x.addRecord(0, 1, 5);
        x.addRecord(0, 2, -8);
        x.addRecord(0, 1, -3);
        x.addRecord(2, 17, 4);
        x.addRecord(3, 2, -9);
        CHECKS.due("run(ADDED)", x.run(0), 2);
        CHECKS.dueOutput("ADDED", x, Checks.part(2, -17), Checks.part(1, 6));
        CHECKS.due("run(LARGEST)", x.run(1), 2);
        CHECKS.dueOutput("LARGEST", x, Checks.part(2, -8), Checks.part(1, 5));
        CHECKS.due("run(SMALLEST)", x.run(2), 2);
        CHECKS.dueOutput("SMALLEST", x, Checks.part(2, -9), Checks.part(1, -3));
        CHECKS.due("run(TALLY)", x.run(3), 2);
        CHECKS.dueOutput("TALLY", x, Checks.part(2, 2), Checks.part(1, 3));
        CHECKS.due("run(CHAIN)", x.run(4), 2);
        CHECKS.dueOutput("CHAIN", x, Checks.part(2, (7 * 31 - 8) * 31 - 9), Checks.part(1, ((7 * 31 + 5) * 31 - 3) * 31 + 4));
    }

    private static void extremeValues() {
        MapReduceRun x = new MapReduceRun(1, 2);
        x.addRecord(0, 0, Integer.MIN_VALUE);
        x.addRecord(0, 1, Integer.MAX_VALUE);
        x.addRecord(1, 0, Integer.MIN_VALUE);
        x.addRecord(1, 1, Integer.MAX_VALUE);
        x.addRecord(2, 2, Integer.MIN_VALUE);
        x.addRecord(2, 2, Integer.MAX_VALUE);
        x.run(MapReduceRun.ADDED);
        CHECKS.dueOutput("sums wrap", x, Checks.part(0, 0, 1, -2, 2, -1));
        x.run(MapReduceRun.LARGEST);
        CHECKS.dueOutput("the greatest", x, Checks.part(0, Integer.MIN_VALUE, 1, Integer.MAX_VALUE, 2, Integer.MAX_VALUE));
        x.run(MapReduceRun.SMALLEST);
        CHECKS.dueOutput("the least", x, Checks.part(0, Integer.MIN_VALUE, 1, Integer.MAX_VALUE, 2, Integer.MIN_VALUE));
    }

    private static void chainGoesSplitBySplit() {
        for (int buffer = 2; buffer <= 8; buffer++) {
            MapReduceRun x = new MapReduceRun(1, buffer);
            for (int i = 0; i < 16; i++) {
                for (int split = 3; split >= 0; split--) {
                    x.addRecord(split, 15 - i % 3, split * 16 + i);
                }
            }
            int[] want = {7, 7, 7};
            for (int n = 0; n < 64; n++) {
                want[n % 16 % 3] = 31 * want[n % 16 % 3] + n;
            }
            CHECKS.due("run(CHAIN), buffer " + buffer, x.run(MapReduceRun.CHAIN), 3);
            CHECKS.dueOutput("CHAIN, buffer " + buffer, x, Checks.part(13, want[2], 14, want[1], 15, want[0]));
        }
    }

    private static void keysGoToTheirParts() {
        for (int parts = 1; parts <= 4; parts++) {
            MapReduceRun x = new MapReduceRun(parts, 5);
            for (int key = 15; key >= 0; key--) {
                x.addRecord(key % 4, key, 100 + key);
            }
            CHECKS.due("run with " + parts + " parts", x.run(MapReduceRun.ADDED), 16);
            int[][] want = new int[parts][];
            for (int part = 0; part < parts; part++) {
                want[part] = new int[2 * ((15 - part) / parts + 1)];
                for (int i = 0; i < want[part].length / 2; i++) {
                    want[part][2 * i] = part + i * parts;
                    want[part][2 * i + 1] = 100 + part + i * parts;
                }
            }
            CHECKS.dueOutput(parts + " parts", x, want);
        }
    }

    private static void badReducerChangesNothing() {
        MapReduceRun x = new MapReduceRun(1, 2);
        x.addRecord(0, 1, 2);
        x.run(MapReduceRun.ADDED);
        x.addRecord(0, 3, 4);
        x.failures(false, 0, 3);
        x.failures(false, 1, 3);
        x.failures(true, 0, 1);
        int[] bad = {-1, 5, 6, Integer.MIN_VALUE, Integer.MAX_VALUE};
        for (int reducer : bad) {
            CHECKS.due("run(" + reducer + ")", x.run(reducer), MapReduceRun.BAD);
            CHECKS.dueOutput("run(" + reducer + ")", x, Checks.part(1, 2));
            CHECKS.due("mapped() after run(" + reducer + ")", x.mapped(), 1);
        }
        CHECKS.due("the failures are still to come", x.run(MapReduceRun.ADDED), MapReduceRun.GIVEN_UP);
        CHECKS.due("the input is still there", x.emptySplit(0), 2);
    }

    private static void resultsReplaceTheOutput() {
        MapReduceRun x = new MapReduceRun(2, 2);
        x.addRecord(0, 1, 1);
        x.addRecord(0, 2, 2);
        x.addRecord(0, 4, 4);
        x.run(MapReduceRun.ADDED);
        CHECKS.dueOutput("the first job", x, Checks.part(2, 2, 4, 4), Checks.part(1, 1));
        x.bounds(4, 4);
        CHECKS.due("the second job", x.run(MapReduceRun.ADDED), 1);
        CHECKS.dueOutput("the second job", x, Checks.part(4, 4), Checks.part());
        x.emptySplit(0);
        CHECKS.due("the third job", x.run(MapReduceRun.ADDED), 0);
        CHECKS.dueOutput("the third job", x, Checks.part(), Checks.part());
    }

    private static void givenUpJob() {
        MapReduceRun x = new MapReduceRun(2, 2);
        x.addRecord(0, 1, 1);
        x.addRecord(1, 2, 2);
        x.run(MapReduceRun.ADDED);
        x.failures(false, 3, 3);
        x.failures(true, 0, 3);
        x.failures(true, 1, 1);
        CHECKS.due("run with seven failures", x.run(MapReduceRun.ADDED), MapReduceRun.GIVEN_UP);
        CHECKS.dueOutput("given up", x, Checks.part(), Checks.part());
        CHECKS.due("the next run", x.run(MapReduceRun.ADDED), 2);
        CHECKS.dueOutput("the next run", x, Checks.part(2, 2), Checks.part(1, 1));
    }

    private static void inputStays() {
        MapReduceRun x = new MapReduceRun(1, 2);
        x.addRecord(0, 5, 1);
        x.addRecord(0, 3, 2);
        x.addRecord(0, 5, 3);
        x.mapping(3, 2, 1);
        x.run(MapReduceRun.CHAIN);
        x.mapping(16, 1, 0);
        x.run(MapReduceRun.CHAIN);
        CHECKS.dueOutput("the unchanged input", x, Checks.part(3, 7 * 31 + 2, 5, (7 * 31 + 1) * 31 + 3));
        CHECKS.due("the records", x.emptySplit(0), 3);
    }
}
