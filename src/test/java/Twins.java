import java.util.ArrayList;
import java.util.List;
import java.util.function.Consumer;
import java.util.function.ToLongFunction;

/**
 * Two objects with the same past, one of which also gets a call that must change nothing: whatever is called later, both must
 * answer alike.
 */
final class Twins {
    private final Checks checks;

    Twins(Checks checks) {
        this.checks = checks;
    }

    /** After every past and with every number of parts. */
    void changesNothing(String call, long want, ToLongFunction<MapReduceRun> made) {
        for (Past past : Past.values()) {
            changesNothing(past, call, want, made);
        }
    }

    void changesNothing(Past past, String call, long want, ToLongFunction<MapReduceRun> made) {
        for (int parts = 1; parts <= 4; parts++) {
            changesNothing(past, parts, call, want, made);
        }
    }

    void changesNothing(int parts, String call, long want, ToLongFunction<MapReduceRun> made) {
        for (Past past : Past.values()) {
            changesNothing(past, parts, call, want, made);
        }
    }

    private void changesNothing(Past past, int parts, String call, long want, ToLongFunction<MapReduceRun> made) {
        String where = past + ", " + parts + " parts: ";
        for (Consumer<Later> later : laters()) {
            MapReduceRun with = past.make(parts);
            checks.due(where + call, made.applyAsLong(with), want);
            Later a = new Later(with);
            Later b = new Later(past.make(parts));
            later.accept(a);
            later.accept(b);
            compare(where + "after " + call + ", ", a.answers, b.answers);
        }
    }

    // Alike up to the first call that answers otherwise: the two may then go different ways.
    private void compare(String where, List<String> with, List<String> without) {
        for (int n = 0; n < Math.min(with.size(), without.size()); n++) {
            if (!with.get(n).equals(without.get(n))) {
                checks.due(where + "later call " + n + ": " + with.get(n) + ", without it " + without.get(n), false, true);
                return;
            }
        }
        checks.due(where + "number of later calls", with.size(), without.size());
    }

    /** Each is to show another side of what an object holds; an object is used for one of them alone. */
    private static List<Consumer<Later>> laters() {
        List<Consumer<Later>> laters = new ArrayList<>();
        laters.add(Later::look);
        laters.add(Later::runAll);
        laters.add(Later::fillUp);
        laters.add(Later::emptyAll);
        laters.add(Later::feedBack);
        laters.add(Later::settings);
        for (int task = 0; task < 8; task++) {
            for (int others = 4; others <= 6; others++) {
                int t = task;
                int o = others;
                laters.add(later -> later.failuresOf(t, o));
            }
        }
        return laters;
    }

    /** Calls that are made on one object, with their answers. */
    private static final class Later {
        private final MapReduceRun x;
        private final List<String> answers = new ArrayList<>();

        Later(MapReduceRun x) {
            this.x = x;
        }

        private void answer(String call, long answer) {
            answers.add(call + " answered " + answer);
        }

        void look() {
            answer("mapped()", x.mapped());
            for (int part = 0; part < 4; part++) {
                int results = x.results(part);
                answer("results(" + part + ")", results);
                for (int i = 0; i <= results; i++) {
                    answer("keyAt(" + part + ", " + i + ")", x.keyAt(part, i));
                    answer("valueAt(" + part + ", " + i + ")", x.valueAt(part, i));
                }
            }
        }

        void run(int reducer) {
            answer("run(" + reducer + ")", x.run(reducer));
            look();
        }

        void runAll() {
            for (int reducer = 0; reducer <= 4; reducer++) {
                run(reducer);
            }
        }

        void fillUp() {
            for (int split = 0; split < 4; split++) {
                for (int n = 0; n < 17; n++) {
                    answer("addRecord(" + split + ", .., ..)", x.addRecord(split, n, n));
                }
            }
            run(MapReduceRun.CHAIN);
            run(MapReduceRun.CHAIN);
        }

        void emptyAll() {
            for (int split = 0; split < 4; split++) {
                answer("emptySplit(" + split + ")", x.emptySplit(split));
            }
            look();
            answer("feedBack()", x.feedBack());
            run(MapReduceRun.TALLY);
        }

        void feedBack() {
            answer("feedBack()", x.feedBack());
            look();
            x.bounds(Integer.MIN_VALUE, Integer.MAX_VALUE);
            answer("mapping(1, 1, 0)", x.mapping(1, 1, 0) ? 1 : 0);
            run(MapReduceRun.CHAIN);
            for (int split = 0; split < 4; split++) {
                answer("emptySplit(" + split + ")", x.emptySplit(split));
            }
        }

        // The values stand on both sides of the pasts' bounds, and the keys show every modulus.
        void settings() {
            int[] values = {Integer.MIN_VALUE, Past.LOW - 1, Past.LOW, 0, 1, Past.HIGH, Past.HIGH + 1, Integer.MAX_VALUE};
            for (int split = 0; split < 4; split++) {
                x.emptySplit(split);
            }
            for (int i = 0; i < values.length; i++) {
                x.addRecord(i % 4, 15 - i, values[i]);
                x.addRecord(i % 4, i - 8, values[i]);
            }
            run(MapReduceRun.CHAIN);
            run(MapReduceRun.CHAIN);
        }

        // With 4, 5 or 6 failures of two other tasks the job is given up if this task has 3, 2 or 1 to come.
        void failuresOf(int task, int others) {
            for (int other = 0; other < 8; other++) {
                if (other != task) {
                    set(other, 0);
                }
            }
            set(task == 0 ? 1 : 0, 3);
            set(task == 2 ? 3 : 2, others - 3);
            run(MapReduceRun.ADDED);
            run(MapReduceRun.ADDED);
        }

        private void set(int task, int times) {
            answer("failures of task " + task, x.failures(task >= 4, task % 4, times) ? 1 : 0);
        }
    }
}
