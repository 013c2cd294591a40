/** All promises: long mixed runs of calls, right and wrong ones, whose answers must be those of Model. */
public final class ModelTest {
    private static final int RUNS = 3000;
    private static final int CALLS = 512;
    private static final int[] ODD_NUMBERS = {Integer.MIN_VALUE, Integer.MIN_VALUE + 1, -17, -16, -1, 0, 1, 15, 16, 17,
        Integer.MAX_VALUE - 1, Integer.MAX_VALUE};

    private final Checks checks = new Checks();
    private long state = 20261115L;
    private int run;
    private int calls;
    private MapReduceRun real;
    private Model model;

    public static void main(String[] args) {
        new ModelTest().go();
    }

    private void go() {
        for (run = 0; run < RUNS; run++) {
            int parts = upTo(8) == 0 ? number() : 1 + upTo(4);
            int buffer = upTo(8) == 0 ? number() : 2 + upTo(7);
            real = new MapReduceRun(parts, buffer);
            model = new Model(parts);
            calls = 0;
            while (calls < CALLS) {
                call();
            }
        }
        checks.end();
    }

    // A fixed sequence instead of a random source, so that every run of the test makes the same calls.
    private int upTo(int bound) {
        state = state * 6364136223846793005L + 1442695040888963407L;
        return (int) ((state >>> 33) % bound);
    }

    private int number() {
        switch (upTo(4)) {
            case 0:
                return ODD_NUMBERS[upTo(ODD_NUMBERS.length)];
            case 1:
                return (upTo(65536) << 16) | upTo(65536);
            default:
                return upTo(60) - 30;
        }
    }

    private int mostly(int bound) {
        return upTo(12) == 0 ? number() : upTo(bound);
    }

    // What an object answers after its 512th call is free.
    private void due(String call, long got, long want) {
        calls++;
        if (calls > CALLS) {
            return;
        }
        checks.due("run " + run + ", call " + calls + ": " + call, got, want);
    }

    private void call() {
        int kind = upTo(24);
        if (kind < 12) {
            addRecord();
        } else if (kind < 18) {
            set(kind);
        } else if (kind < 21) {
            runAndLook();
        } else if (kind == 21) {
            due("feedBack()", real.feedBack(), model.feedBack());
        } else if (kind == 22 && upTo(3) == 0) {
            int split = mostly(4);
            due("emptySplit(" + split + ")", real.emptySplit(split), model.emptySplit(split));
        } else {
            look(mostly(4), mostly(5));
        }
    }

    private void addRecord() {
        int split = mostly(4);
        int key = number();
        int value = number();
        due("addRecord(" + split + ", " + key + ", " + value + ")", real.addRecord(split, key, value),
                model.addRecord(split, key, value));
    }

    private void set(int kind) {
        if (kind == 12) {
            int modulus = upTo(6) == 0 ? number() : 1 + upTo(16);
            int factor = number();
            int offset = number();
            due("mapping(" + modulus + ", " + factor + ", " + offset + ")", real.mapping(modulus, factor, offset) ? 1 : 0,
                    model.mapping(modulus, factor, offset) ? 1 : 0);
        } else if (kind == 13) {
            int low = upTo(2) == 0 ? Integer.MIN_VALUE : number();
            int high = upTo(2) == 0 ? Integer.MAX_VALUE : number();
            real.bounds(low, high);
            model.bounds(low, high);
            calls++;
        } else {
            boolean reduce = upTo(2) == 0;
            int i = mostly(4);
            int times = mostly(4);
            due("failures(" + reduce + ", " + i + ", " + times + ")", real.failures(reduce, i, times) ? 1 : 0,
                    model.failures(reduce, i, times) ? 1 : 0);
        }
    }

    private void runAndLook() {
        int reducer = mostly(5);
        due("run(" + reducer + ")", real.run(reducer), model.run(reducer));
        due("mapped()", real.mapped(), model.mapped());
        for (int part = 0; part < 4; part++) {
            int shown = Math.max(0, model.results(part));
            for (int i = 0; i <= shown; i++) {
                if (upTo(3) == 0) {
                    look(part, i);
                }
            }
        }
    }

    private void look(int part, int i) {
        due("results(" + part + ")", real.results(part), model.results(part));
        due("keyAt(" + part + ", " + i + ")", real.keyAt(part, i), model.keyAt(part, i));
        due("valueAt(" + part + ", " + i + ")", real.valueAt(part, i), model.valueAt(part, i));
        due("mapped()", real.mapped(), model.mapped());
    }
}
