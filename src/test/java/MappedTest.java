/** Promise 10: mapped. */
public final class MappedTest {
    private static final Checks CHECKS = new Checks();

    public static void main(String[] args) {
        countsRecordsThatAreKept();
        countsEachOnceDespiteFailures();
        tellsOfGivenUpJobs();
        tellsOfTheLatestJobAlone();
        CHECKS.end();
    }

    private static MapReduceRun filled() {
        MapReduceRun x = new MapReduceRun(2, 2);
        for (int i = 0; i < 20; i++) {
            x.addRecord(i % 4, 5, i);
        }
        return x;
    }

    private static void countsRecordsThatAreKept() {
        MapReduceRun x = filled();
        CHECKS.due("mapped() before any job", x.mapped(), 0);
        x.run(MapReduceRun.LARGEST);
        CHECKS.due("mapped() of all", x.mapped(), 20);
        x.bounds(3, 9);
        x.run(MapReduceRun.LARGEST);
        CHECKS.due("mapped() within bounds", x.mapped(), 7);
    }

    private static void countsEachOnceDespiteFailures() {
        MapReduceRun x = filled();
        x.failures(false, 0, 3);
        x.failures(false, 1, 2);
        x.failures(true, 0, 1);
        x.run(MapReduceRun.ADDED);
        CHECKS.due("mapped() with failures", x.mapped(), 20);
    }

    private static void tellsOfGivenUpJobs() {
        MapReduceRun x = filled();
        x.run(MapReduceRun.ADDED);
        x.bounds(0, 4);
        x.failures(false, 0, 3);
        x.failures(false, 1, 3);
        x.failures(true, 1, 3);
        CHECKS.due("the job", x.run(MapReduceRun.ADDED), MapReduceRun.GIVEN_UP);
        CHECKS.due("mapped() of the given up job", x.mapped(), 5);
    }

    private static void tellsOfTheLatestJobAlone() {
        MapReduceRun x = filled();
        x.run(MapReduceRun.ADDED);
        x.bounds(1, 0);
        x.emptySplit(0);
        x.addRecord(1, 1, 1);
        x.mapping(3, 1, 1);
        x.run(9);
        x.feedBack();
        CHECKS.due("mapped() after other calls", x.mapped(), 20);
        x.run(MapReduceRun.ADDED);
        CHECKS.due("mapped() of the next job", x.mapped(), 0);
    }
}
