/** The terms: tasks that fail, and jobs that are given up. */
public final class TasksFailTest {
    private static final Checks CHECKS = new Checks();

    public static void main(String[] args) {
        eachTaskHasANumber();
        emptySplitsFailToo();
        emptyPartsFailToo();
        failuresAreUsedUp();
        noTraceInTheResults();
        sixAndSeven();
        everyTaskCounts();
        givenUpAndEmpty();
        usedUpAllTheSame();
        CHECKS.end();
    }

    private static void setTask(MapReduceRun x, int task, int times) {
        CHECKS.due("failures of task " + task, x.failures(task >= 4, task % 4, times), true);
    }

    private static void eachTaskHasANumber() {
        CHECKS.sentence("for each split and for each part there is a number of failures to come, from 0 to 3");
        for (int parts = 1; parts <= 4; parts++) {
            for (int task = 0; task < 8; task++) {
                for (int times = -1; times <= 4; times++) {
                    numberOf(parts, task, times);
                }
            }
        }
    }

    // The number is seen from outside by how many failures of other tasks bring the job to seven.
    private static void numberOf(int parts, int task, int times) {
        boolean taken = task < 4 + parts && times >= 0 && times <= 3;
        int number = taken ? times : 0;
        String call = "failures(" + (task >= 4) + ", " + task % 4 + ", " + times + ") with " + parts + " parts";
        for (int total = 6; total <= 7; total++) {
            MapReduceRun x = new MapReduceRun(parts, 2);
            CHECKS.due(call, x.failures(task >= 4, task % 4, times), taken);
            int left = total - number;
            for (int other = 0; other < 4 + parts; other++) {
                if (other != task) {
                    setTask(x, other, Math.min(left, 3));
                    left -= Math.min(left, 3);
                }
            }
            CHECKS.due(call + ", then a job with " + total, x.run(MapReduceRun.ADDED), total == 6 ? 0 : MapReduceRun.GIVEN_UP);
        }
    }

    private static void emptySplitsFailToo() {
        CHECKS.sentence("every split is mapped by a task .. (also where there is nothing in it)");
        for (int split = 1; split < 4; split++) {
            MapReduceRun x = new MapReduceRun(1, 2);
            x.addRecord(0, 1, 1);
            x.failures(false, 0, 3);
            x.failures(true, 0, 3);
            x.failures(false, split, 1);
            CHECKS.due("run with a seventh failure at empty split " + split, x.run(MapReduceRun.ADDED), MapReduceRun.GIVEN_UP);
            x.failures(false, split, 3);
            x.failures(true, 0, 3);
            CHECKS.due("run with six, three at empty split " + split, x.run(MapReduceRun.ADDED), 1);
            x.failures(false, 0, 3);
            x.failures(true, 0, 3);
            CHECKS.due("those of empty split " + split + " were used up", x.run(MapReduceRun.ADDED), 1);
        }
        MapReduceRun x = new MapReduceRun(1, 2);
        setTask(x, 0, 3);
        setTask(x, 1, 3);
        setTask(x, 4, 1);
        CHECKS.due("run without any record", x.run(MapReduceRun.ADDED), MapReduceRun.GIVEN_UP);
    }

    private static void emptyPartsFailToo() {
        CHECKS.sentence("every part is reduced by a task (also where there is nothing in it)");
        for (int part = 0; part < 3; part++) {
            MapReduceRun x = new MapReduceRun(4, 2);
            x.addRecord(0, 3, 1);
            x.failures(false, 0, 3);
            x.failures(true, 3, 3);
            x.failures(true, part, 1);
            CHECKS.due("run with a seventh failure at empty part " + part, x.run(MapReduceRun.ADDED), MapReduceRun.GIVEN_UP);
            x.failures(true, part, 3);
            x.failures(true, 3, 3);
            CHECKS.due("run with six, three at empty part " + part, x.run(MapReduceRun.ADDED), 1);
            x.failures(false, 0, 3);
            x.failures(true, 3, 3);
            CHECKS.due("those of empty part " + part + " were used up", x.run(MapReduceRun.ADDED), 1);
        }
        // With modulus 1 there is no key at all that belongs to part 3.
        MapReduceRun x = new MapReduceRun(4, 2);
        x.addRecord(0, 3, 1);
        x.mapping(1, 1, 0);
        x.failures(false, 0, 3);
        x.failures(false, 1, 3);
        x.failures(true, 3, 1);
        CHECKS.due("run with a failure at a part without keys", x.run(MapReduceRun.ADDED), MapReduceRun.GIVEN_UP);
    }

    private static void failuresAreUsedUp() {
        CHECKS.sentence("a task is tried again as often as there are failures to come for it, and each failure is then used up");
        for (int task = 0; task < 8; task++) {
            for (int times = 1; times <= 3; times++) {
                MapReduceRun x = new MapReduceRun(4, 2);
                x.addRecord(0, 1, 1);
                setTask(x, task, times);
                CHECKS.due("run with " + times + " at task " + task, x.run(MapReduceRun.ADDED), 1);
                setTask(x, (task + 1) % 8, 3);
                setTask(x, (task + 2) % 8, 3);
                CHECKS.due("run with six others than task " + task, x.run(MapReduceRun.ADDED), 1);
                setTask(x, (task + 3) % 8, 3);
                setTask(x, (task + 4) % 8, 3);
                CHECKS.due("run with six others again", x.run(MapReduceRun.ADDED), 1);
            }
        }
    }

    private static void noTraceInTheResults() {
        CHECKS.sentence("A failed try leaves no trace in the results");
        int[][] failing = {{0, 3}, {1, 1}, {2, 2}, {3, 3}, {4, 1}, {5, 3}};
        for (int reducer = 0; reducer <= 4; reducer++) {
            for (int a = 0; a < failing.length; a++) {
                for (int b = a + 1; b < failing.length; b++) {
                    MapReduceRun x = filled();
                    setTask(x, failing[a][0], failing[a][1]);
                    setTask(x, failing[b][0], failing[b][1]);
                    sameOutput("run(" + reducer + ") with failures of " + failing[a][0] + " and " + failing[b][0], x, reducer);
                }
            }
        }
    }

    private static MapReduceRun filled() {
        MapReduceRun x = new MapReduceRun(2, 3);
        for (int i = 0; i < 40; i++) {
            x.addRecord(i % 4, i * i, 11 * i - 90);
        }
        return x;
    }

    private static void sameOutput(String call, MapReduceRun failing, int reducer) {
        MapReduceRun calm = filled();
        CHECKS.due(call, failing.run(reducer), calm.run(reducer));
        CHECKS.due(call + ", mapped()", failing.mapped(), calm.mapped());
        for (int part = 0; part < 2; part++) {
            CHECKS.due(call + ", results", failing.results(part), calm.results(part));
            for (int i = 0; i < 16; i++) {
                CHECKS.due(call + ", keyAt", failing.keyAt(part, i), calm.keyAt(part, i));
                CHECKS.due(call + ", valueAt", failing.valueAt(part, i), calm.valueAt(part, i));
            }
        }
    }

    private static void sixAndSeven() {
        CHECKS.sentence("If more than 6 failures in all would be used up by a job, the job is given up");
        for (int parts = 1; parts <= 4; parts++) {
            for (int total = 0; total <= 3 * (4 + parts); total++) {
                MapReduceRun x = new MapReduceRun(parts, 2);
                x.addRecord(0, 1, 1);
                int left = total;
                for (int task = 3 + parts; task >= 0; task--) {
                    int times = Math.min(left, 3);
                    setTask(x, task, times);
                    left -= times;
                }
                String call = "run with " + total + " failures and " + parts + " parts";
                CHECKS.due(call, x.run(MapReduceRun.ADDED), total > 6 ? MapReduceRun.GIVEN_UP : 1);
            }
        }
    }

    private static void everyTaskCounts() {
        CHECKS.sentence("6 failures in all");
        for (int seventh = 0; seventh < 8; seventh++) {
            MapReduceRun x = new MapReduceRun(4, 2);
            for (int other = 1; other <= 6; other++) {
                setTask(x, (seventh + other) % 8, 1);
            }
            CHECKS.due("six tasks without task " + seventh, x.run(MapReduceRun.ADDED), 0);
            for (int other = 0; other <= 6; other++) {
                setTask(x, (seventh + other) % 8, 1);
            }
            CHECKS.due("seven tasks with task " + seventh, x.run(MapReduceRun.ADDED), MapReduceRun.GIVEN_UP);
        }
    }

    private static void givenUpAndEmpty() {
        CHECKS.sentence("it answers GIVEN_UP, and its output is empty");
        for (int reducer = 0; reducer <= 4; reducer++) {
            MapReduceRun x = new MapReduceRun(2, 2);
            x.addRecord(0, 1, 1);
            x.addRecord(1, 2, 2);
            x.run(reducer);
            x.failures(false, 3, 3);
            x.failures(true, 0, 3);
            x.failures(true, 1, 1);
            CHECKS.due("run(" + reducer + ") with seven failures", x.run(reducer), -3);
            CHECKS.dueOutput("given up", x, Checks.part(), Checks.part());
        }
    }

    private static void usedUpAllTheSame() {
        CHECKS.sentence("but the failures are used up all the same");
        MapReduceRun x = new MapReduceRun(4, 2);
        x.addRecord(0, 1, 1);
        for (int task = 0; task < 8; task++) {
            setTask(x, task, 3);
        }
        CHECKS.due("run with 24 failures", x.run(MapReduceRun.ADDED), MapReduceRun.GIVEN_UP);
        for (int task = 0; task < 8; task++) {
            setTask(x, task, 3);
            setTask(x, (task + 3) % 8, 3);
            CHECKS.due("run with six new ones", x.run(MapReduceRun.ADDED), 1);
        }
        for (int task = 0; task < 8; task++) {
            setTask(x, task, 3);
            setTask(x, (task + 1) % 8, 3);
            setTask(x, (task + 2) % 8, 1);
            CHECKS.due("run with seven", x.run(MapReduceRun.ADDED), MapReduceRun.GIVEN_UP);
            CHECKS.due("the run after it", x.run(MapReduceRun.ADDED), 1);
            CHECKS.dueOutput("the run after it", x, Checks.part(), Checks.part(1, 1), Checks.part(), Checks.part());
        }
    }
}
