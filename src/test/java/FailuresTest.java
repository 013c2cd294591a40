/** Promise 5: failures. */
public final class FailuresTest {
    private static final Checks CHECKS = new Checks();
    private static final Twins TWINS = new Twins(CHECKS);
    private static final int[] NUMBERS = {Integer.MIN_VALUE, -4, -1, 0, 1, 2, 3, 4, 5, 8, Integer.MAX_VALUE};

    public static void main(String[] args) {
        splitsOutside();
        refusedSplitChangesNothing();
        partsOutside();
        refusedPartChangesNothing();
        timesOutside();
        refusedTimesChangeNothing();
        setsAndDoesNotAdd();
        eachTaskHasItsOwn();
        CHECKS.end();
    }

    private static void splitsOutside() {
        CHECKS.sentence("i outside 0..3");
        for (int parts = 1; parts <= 4; parts++) {
            for (int i : NUMBERS) {
                String call = "failures(false, " + i + ", 1) with " + parts + " parts";
                CHECKS.due(call, new MapReduceRun(parts, 2).failures(false, i, 1), i >= 0 && i <= 3);
            }
        }
    }

    private static void refusedSplitChangesNothing() {
        CHECKS.sentence("i outside 0..3 .. refused, answers false");
        for (int i : new int[] {Integer.MIN_VALUE, -1, 4, Integer.MAX_VALUE}) {
            TWINS.changesNothing("failures(false, " + i + ", 3)", 0, x -> x.failures(false, i, 3) ? 1 : 0);
        }
    }

    private static void partsOutside() {
        CHECKS.sentence("or for a part i outside 0..P-1");
        for (int parts = 1; parts <= 4; parts++) {
            for (int i : NUMBERS) {
                String call = "failures(true, " + i + ", 1) with " + parts + " parts";
                CHECKS.due(call, new MapReduceRun(parts, 2).failures(true, i, 1), i >= 0 && i < parts);
            }
        }
    }

    private static void refusedPartChangesNothing() {
        CHECKS.sentence("or for a part i outside 0..P-1 .. refused, answers false");
        for (int parts = 1; parts <= 4; parts++) {
            for (int i : new int[] {Integer.MIN_VALUE, -1, parts, 3, 4, Integer.MAX_VALUE}) {
                if (i < 0 || i >= parts) {
                    TWINS.changesNothing(parts, "failures(true, " + i + ", 3)", 0, x -> x.failures(true, i, 3) ? 1 : 0);
                }
            }
        }
    }

    private static void timesOutside() {
        CHECKS.sentence("or times outside 0..3");
        for (int i = 0; i < 4; i++) {
            for (int times : NUMBERS) {
                boolean want = times >= 0 && times <= 3;
                String of = i + ", " + times + ")";
                CHECKS.due("failures(false, " + of, new MapReduceRun(4, 2).failures(false, i, times), want);
                CHECKS.due("failures(true, " + of, new MapReduceRun(4, 2).failures(true, i, times), want);
            }
        }
        MapReduceRun x = new MapReduceRun(2, 2);
        CHECKS.due("failures(true, 2, 4)", x.failures(true, 2, 4), false);
        CHECKS.due("failures(false, 4, -1)", x.failures(false, 4, -1), false);
    }

    private static void refusedTimesChangeNothing() {
        CHECKS.sentence("or times outside 0..3: refused, answers false");
        for (int times : new int[] {Integer.MIN_VALUE, -1, 4, Integer.MAX_VALUE}) {
            for (int split = 0; split < 4; split++) {
                int s = split;
                TWINS.changesNothing("failures(false, " + s + ", " + times + ")", 0, x -> x.failures(false, s, times) ? 1 : 0);
            }
            for (int parts = 1; parts <= 4; parts++) {
                int p = parts - 1;
                TWINS.changesNothing(parts, "failures(true, 0, " + times + ")", 0, x -> x.failures(true, 0, times) ? 1 : 0);
                TWINS.changesNothing(parts, "failures(true, " + p + ", " + times + ")", 0, x -> x.failures(true, p, times) ? 1 : 0);
            }
        }
        MapReduceRun x = new MapReduceRun(2, 2);
        x.failures(false, 0, 3);
        x.failures(false, 1, 3);
        x.failures(true, 1, 1);
        x.failures(false, 0, 4);
        x.failures(false, 1, -1);
        x.failures(true, 1, 4);
        x.failures(true, 1, -1);
        CHECKS.due("seven failures stay seven", x.run(MapReduceRun.ADDED), MapReduceRun.GIVEN_UP);
    }

    private static void setsAndDoesNotAdd() {
        CHECKS.sentence("Sets the number of failures to come");
        for (int task = 0; task < 8; task++) {
            for (int times = 0; times <= 3; times++) {
                CHECKS.due("task " + task + " set to " + times + ", six in all", setAnew(task, times, 6 - times), 0);
                CHECKS.due("task " + task + " set to " + times + ", seven in all", setAnew(task, times, 7 - times),
                        MapReduceRun.GIVEN_UP);
            }
        }
    }

    // Runs a job with so many failures of this task, which had others to come before, and so many of three other tasks.
    private static int setAnew(int task, int times, int others) {
        MapReduceRun x = new MapReduceRun(4, 2);
        set(x, task, 3);
        set(x, task, 2);
        set(x, task, times);
        int left = others;
        for (int other = 1; other <= 3; other++) {
            set(x, (task + other) % 8, Math.min(left, 3));
            left -= Math.min(left, 3);
        }
        return x.run(MapReduceRun.ADDED);
    }

    private static void set(MapReduceRun x, int task, int times) {
        CHECKS.due("failures of task " + task, x.failures(task >= 4, task % 4, times), true);
    }

    private static void eachTaskHasItsOwn() {
        CHECKS.sentence("of the task that maps split number i (reduce false) or reduces part number i (reduce true)");
        for (int task = 0; task < 8; task++) {
            MapReduceRun x = new MapReduceRun(4, 2);
            for (int other = 0; other < 8; other++) {
                set(x, other, 1);
            }
            set(x, task, 0);
            CHECKS.due("seven tasks without task " + task, x.run(MapReduceRun.ADDED), MapReduceRun.GIVEN_UP);
            for (int other = 0; other < 8; other++) {
                set(x, other, 1);
            }
            set(x, task, 0);
            set(x, (task + 4) % 8, 0);
            CHECKS.due("six tasks without a split and a part of one number", x.run(MapReduceRun.ADDED), 0);
        }
    }
}
