/** Promise 5: failures, and the terms' rules for tasks that fail. */
public final class FailuresTest {
    private static final Checks CHECKS = new Checks();

    public static void main(String[] args) {
        argumentsAreLookedAt();
        refusalChangesNothing();
        setsAndDoesNotAdd();
        everyTaskCounts();
        sixAreBorne();
        failuresAreUsedUp();
        failedTriesLeaveNoTrace();
        CHECKS.end();
    }

    private static void argumentsAreLookedAt() {
        int[] numbers = {Integer.MIN_VALUE, -1, 0, 1, 2, 3, 4, 5, Integer.MAX_VALUE};
        for (int parts = 1; parts <= 4; parts++) {
            for (int i : numbers) {
                for (int times : numbers) {
                    boolean timesFit = times >= 0 && times <= 3;
                    MapReduceRun x = new MapReduceRun(parts, 2);
                    String of = "(" + i + ", " + times + ") with " + parts + " parts";
                    CHECKS.due("map failures" + of, x.failures(false, i, times), timesFit && i >= 0 && i <= 3);
                    CHECKS.due("reduce failures" + of, x.failures(true, i, times), timesFit && i >= 0 && i < parts);
                }
            }
        }
    }

    private static void refusalChangesNothing() {
        MapReduceRun x = new MapReduceRun(2, 2);
        x.failures(false, 0, 3);
        x.failures(false, 1, 3);
        x.failures(true, 1, 1);
        x.failures(false, 0, 4);
        x.failures(false, 1, -1);
        x.failures(true, 1, 4);
        x.failures(true, 1, -1);
        CHECKS.due("seven failures stay seven", x.run(MapReduceRun.ADDED), MapReduceRun.GIVEN_UP);

        x.failures(false, 0, 3);
        x.failures(false, 1, 3);
        x.failures(true, 2, 3);
        x.failures(true, 3, 3);
        x.failures(true, 4, 3);
        x.failures(false, 4, 3);
        x.failures(false, -1, 3);
        x.failures(true, -1, 3);
        CHECKS.due("six failures stay six", x.run(MapReduceRun.ADDED), 0);
    }

    private static void setsAndDoesNotAdd() {
        MapReduceRun x = new MapReduceRun(1, 2);
        x.failures(false, 0, 3);
        x.failures(false, 0, 3);
        x.failures(false, 0, 3);
        CHECKS.due("three times three is three", x.run(MapReduceRun.ADDED), 0);
        x.failures(true, 0, 3);
        x.failures(true, 0, 2);
        x.failures(true, 0, 3);
        CHECKS.due("a part's failures are set too", x.run(MapReduceRun.ADDED), 0);
        x.failures(false, 0, 3);
        x.failures(false, 1, 3);
        x.failures(false, 2, 3);
        x.failures(false, 1, 0);
        CHECKS.due("set back to none", x.run(MapReduceRun.ADDED), 0);
    }

    private static void everyTaskCounts() {
        for (int seventh = 0; seventh < 8; seventh++) {
            MapReduceRun x = new MapReduceRun(4, 2);
            for (int other = 1; other <= 6; other++) {
                setTask(x, (seventh + other) % 8, 1);
            }
            setTask(x, seventh, 1);
            CHECKS.due("seven tasks with task " + seventh, x.run(MapReduceRun.ADDED), MapReduceRun.GIVEN_UP);
            setTask(x, seventh, 3);
            setTask(x, (seventh + 3) % 8, 3);
            CHECKS.due("six of two tasks with task " + seventh, x.run(MapReduceRun.ADDED), 0);
            setTask(x, seventh, 3);
            setTask(x, (seventh + 3) % 8, 3);
            setTask(x, (seventh + 5) % 8, 1);
            CHECKS.due("seven of three tasks with task " + seventh, x.run(MapReduceRun.ADDED), MapReduceRun.GIVEN_UP);
        }
    }

    private static void setTask(MapReduceRun x, int task, int times) {
        CHECKS.due("failures of task " + task, x.failures(task >= 4, task % 4, times), true);
    }

    private static void sixAreBorne() {
        for (int total = 0; total <= 24; total++) {
            MapReduceRun x = new MapReduceRun(4, 2);
            x.addRecord(0, 1, 1);
            int left = total;
            for (int task = 0; task < 8; task++) {
                int times = Math.min(left, 3);
                setTask(x, task, times);
                left -= times;
            }
            CHECKS.due("run with " + total + " failures", x.run(MapReduceRun.ADDED), total > 6 ? MapReduceRun.GIVEN_UP : 1);
            CHECKS.due("the run after " + total + " failures", x.run(MapReduceRun.ADDED), 1);
        }
    }

    private static void failuresAreUsedUp() {
        MapReduceRun x = new MapReduceRun(1, 2);
        x.failures(false, 0, 3);
        x.failures(true, 0, 3);
        CHECKS.due("run with six", x.run(MapReduceRun.ADDED), 0);
        x.failures(false, 1, 3);
        x.failures(false, 2, 3);
        CHECKS.due("run with six others", x.run(MapReduceRun.ADDED), 0);
        x.failures(false, 0, 3);
        x.failures(false, 1, 3);
        x.failures(false, 2, 3);
        x.failures(true, 0, 3);
        CHECKS.due("run with twelve", x.run(MapReduceRun.ADDED), MapReduceRun.GIVEN_UP);
        x.failures(false, 3, 3);
        CHECKS.due("the twelve are used up", x.run(MapReduceRun.ADDED), 0);
    }

    private static void failedTriesLeaveNoTrace() {
        for (int reducer = 0; reducer <= 4; reducer++) {
            MapReduceRun calm = filled();
            MapReduceRun failing = filled();
            failing.failures(false, 0, 3);
            failing.failures(false, 2, 1);
            failing.failures(true, 0, 1);
            failing.failures(true, 1, 1);
            CHECKS.due("run(" + reducer + ") with failures", failing.run(reducer), calm.run(reducer));
            CHECKS.due("mapped() with failures", failing.mapped(), calm.mapped());
            for (int part = 0; part < 2; part++) {
                CHECKS.due("results with failures", failing.results(part), calm.results(part));
                for (int i = 0; i < 16; i++) {
                    CHECKS.due("keyAt with failures", failing.keyAt(part, i), calm.keyAt(part, i));
                    CHECKS.due("valueAt with failures", failing.valueAt(part, i), calm.valueAt(part, i));
                }
            }
        }
    }

    private static MapReduceRun filled() {
        MapReduceRun x = new MapReduceRun(2, 3);
        for (int i = 0; i < 40; i++) {
            x.addRecord(i % 4, i * i, 11 * i - 90);
        }
        return x;
    }
}
