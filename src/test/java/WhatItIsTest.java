/** What it is: how long an object is used. */
public final class WhatItIsTest {
    private static final Checks CHECKS = new Checks();
    private static final int CALLS = 512;

    public static void main(String[] args) {
        the512thCall();
        sameAnswersUpToTheLastCall();
        CHECKS.end();
    }

    private static void the512thCall() {
        CHECKS.sentence("An object is used for at most 512 calls after it has been made");
        MapReduceRun x = new MapReduceRun(1, 8);
        int calls = 0;
        for (; calls < 64; calls++) {
            CHECKS.due("call " + (calls + 1), x.addRecord(calls / 16, calls, 1), calls % 16 + 1);
        }
        for (; calls < CALLS - 1; calls++) {
            CHECKS.due("call " + (calls + 1), x.run(MapReduceRun.TALLY), 16);
        }
        CHECKS.due("the 512th call, valueAt(0, 15)", x.valueAt(0, 15), 4);
    }

    // Sixteen rounds of 32 calls, each of which fills a split and leaves the input empty.
    private static void sameAnswersUpToTheLastCall() {
        CHECKS.sentence("An object is used for at most 512 calls after it has been made");
        MapReduceRun x = new MapReduceRun(2, 2);
        for (int calls = 0; calls < CALLS; calls += 32) {
            String round = "calls " + (calls + 1) + " to " + (calls + 32) + ", ";
            for (int n = 1; n <= 16; n++) {
                CHECKS.due(round + "addRecord", x.addRecord(3, n, n), n);
            }
            CHECKS.due(round + "addRecord to a full split", x.addRecord(3, 0, 0), MapReduceRun.FULL);
            CHECKS.due(round + "mapping", x.mapping(16, -1, 0), true);
            x.bounds(1, 16);
            CHECKS.due(round + "failures of a split", x.failures(false, 3, 3), true);
            CHECKS.due(round + "failures of a part", x.failures(true, 0, 3), true);
            CHECKS.due(round + "run", x.run(MapReduceRun.ADDED), 16);
            CHECKS.due(round + "mapped", x.mapped(), 16);
            CHECKS.due(round + "results of part 0", x.results(0), 8);
            CHECKS.due(round + "results of part 1", x.results(1), 8);
            CHECKS.due(round + "the first key", x.keyAt(0, 0), 0);
            CHECKS.due(round + "its value", x.valueAt(0, 0), -16);
            CHECKS.due(round + "the last key", x.keyAt(1, 7), 15);
            CHECKS.due(round + "its value", x.valueAt(1, 7), -15);
            CHECKS.due(round + "feedBack", x.feedBack(), 16);
            CHECKS.due(round + "emptySplit(0)", x.emptySplit(0), 8);
            CHECKS.due(round + "emptySplit(1)", x.emptySplit(1), 8);
        }
    }
}
