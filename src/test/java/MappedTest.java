/** Promise 10: mapped. */
public final class MappedTest {
    private static final Checks CHECKS = new Checks();

    public static void main(String[] args) {
        countsRecordsThatAreKept();
        noneAndAll();
        latestJobAlone();
        eachOnce();
        beforeAnyJob();
        givenUp();
        CHECKS.end();
    }

    private static MapReduceRun filled() {
        MapReduceRun x = new MapReduceRun(2, 2);
        for (int i = 0; i < 20; i++) {
            x.addRecord(i % 4, 5, i);
        }
        return x;
    }

    private static void countsRecordsThatAreKept() {
        CHECKS.sentence("The number of records that the latest job mapped to a pair");
        MapReduceRun x = filled();
        x.run(MapReduceRun.LARGEST);
        CHECKS.due("mapped() of all", x.mapped(), 20);
        x.bounds(3, 9);
        x.run(MapReduceRun.LARGEST);
        CHECKS.due("mapped() within bounds", x.mapped(), 7);
    }

    private static void noneAndAll() {
        CHECKS.sentence("The number of records that the latest job mapped to a pair");
        MapReduceRun x = new MapReduceRun(1, 8);
        x.run(MapReduceRun.ADDED);
        CHECKS.due("mapped() without records", x.mapped(), 0);
        for (int n = 1; n <= 65; n++) {
            x.addRecord(n % 4, n, n);
            x.run(MapReduceRun.ADDED);
            CHECKS.due("mapped() after adding " + n, x.mapped(), Math.min(n, 64));
        }
        x.bounds(1, 0);
        x.run(MapReduceRun.ADDED);
        CHECKS.due("mapped() where all are dropped", x.mapped(), 0);
    }

    private static void latestJobAlone() {
        CHECKS.sentence("the latest job");
        MapReduceRun x = filled();
        x.run(MapReduceRun.ADDED);
        x.bounds(1, 0);
        x.emptySplit(0);
        x.addRecord(1, 1, 1);
        x.mapping(3, 1, 1);
        x.failures(false, 0, 3);
        CHECKS.due("run(9)", x.run(9), MapReduceRun.BAD);
        x.feedBack();
        CHECKS.due("mapped() after other calls", x.mapped(), 20);
        x.run(MapReduceRun.ADDED);
        CHECKS.due("mapped() of the next job", x.mapped(), 0);
    }

    private static void eachOnce() {
        CHECKS.sentence("each once, however often its task was tried");
        for (int split = 0; split < 4; split++) {
            for (int times = 0; times <= 3; times++) {
                MapReduceRun x = filled();
                x.failures(false, split, times);
                x.failures(false, (split + 1) % 4, 1);
                x.failures(true, 1, 2);
                CHECKS.due("run", x.run(MapReduceRun.ADDED), 1);
                CHECKS.due("mapped() with " + times + " failures of split " + split, x.mapped(), 20);
            }
        }
    }

    private static void beforeAnyJob() {
        CHECKS.sentence("0 before any job");
        MapReduceRun x = new MapReduceRun(1, 2);
        CHECKS.due("mapped() of a new object", x.mapped(), 0);
        x.addRecord(0, 1, 1);
        CHECKS.due("mapped() after addRecord", x.mapped(), 0);
        x.run(5);
        x.run(-1);
        CHECKS.due("mapped() after refused jobs", x.mapped(), 0);
        x.run(MapReduceRun.ADDED);
        CHECKS.due("mapped() after the first job", x.mapped(), 1);
    }

    private static void givenUp() {
        CHECKS.sentence("if the job was given up, what it would have been");
        int[][] bounds = {{0, 19}, {0, 4}, {7, 7}, {1, 0}};
        int[] want = {20, 5, 1, 0};
        for (int n = 0; n < 4; n++) {
            MapReduceRun first = filled();
            giveUp(first, bounds[n]);
            CHECKS.due("mapped() of the first job, given up", first.mapped(), want[n]);
            MapReduceRun second = filled();
            second.bounds(0, 9);
            second.run(MapReduceRun.ADDED);
            giveUp(second, bounds[n]);
            CHECKS.due("mapped() of the second job, given up", second.mapped(), want[n]);
            second.run(MapReduceRun.ADDED);
            CHECKS.due("mapped() of the job after it", second.mapped(), want[n]);
        }
    }

    private static void giveUp(MapReduceRun x, int[] bounds) {
        x.bounds(bounds[0], bounds[1]);
        x.failures(false, 0, 3);
        x.failures(false, 1, 3);
        x.failures(true, 1, 3);
        CHECKS.due("the job", x.run(MapReduceRun.ADDED), MapReduceRun.GIVEN_UP);
    }
}
