/** Promise 1: a new object. */
public final class NewObjectTest {
    private static final Checks CHECKS = new Checks();

    public static void main(String[] args) {
        partsAreClamped();
        nothingIsThereAtFirst();
        settingsAtFirst();
        bufferShowsInNoAnswer();
        objectsShareNothing();
        CHECKS.end();
    }

    private static void partsAreClamped() {
        int[][] asked = {{Integer.MIN_VALUE, 1}, {-1, 1}, {0, 1}, {1, 1}, {2, 2}, {3, 3}, {4, 4}, {5, 4}, {Integer.MAX_VALUE, 4}};
        for (int[] a : asked) {
            MapReduceRun x = new MapReduceRun(a[0], 4);
            for (int part = -1; part <= 5; part++) {
                boolean there = part >= 0 && part < a[1];
                CHECKS.due("parts " + a[0] + ": results(" + part + ")", x.results(part), there ? 0 : MapReduceRun.BAD);
                CHECKS.due("parts " + a[0] + ": failures(true, " + part + ", 0)", x.failures(true, part, 0), there);
            }
        }
    }

    private static void nothingIsThereAtFirst() {
        MapReduceRun x = new MapReduceRun(4, 4);
        for (int split = 0; split < 4; split++) {
            CHECKS.due("emptySplit(" + split + ") at first", x.emptySplit(split), 0);
            CHECKS.due("keyAt(" + split + ", 0) at first", x.keyAt(split, 0), MapReduceRun.BAD);
            CHECKS.due("valueAt(" + split + ", 0) at first", x.valueAt(split, 0), 0);
        }
        CHECKS.due("mapped() at first", x.mapped(), 0);
        CHECKS.due("feedBack() at first", x.feedBack(), 0);
        CHECKS.due("run(ADDED) without records", x.run(MapReduceRun.ADDED), 0);
    }

    private static void settingsAtFirst() {
        MapReduceRun x = new MapReduceRun(1, 4);
        x.addRecord(0, 15, Integer.MIN_VALUE);
        x.addRecord(1, 16, Integer.MAX_VALUE);
        x.addRecord(2, -2, 5);
        CHECKS.due("run with the first settings", x.run(MapReduceRun.ADDED), 3);
        CHECKS.dueOutput("first settings", x, Checks.part(0, Integer.MAX_VALUE, 14, 5, 15, Integer.MIN_VALUE));
        CHECKS.due("mapped with the first settings", x.mapped(), 3);

        MapReduceRun y = new MapReduceRun(4, 4);
        y.failures(false, 0, 3);
        y.failures(true, 0, 3);
        CHECKS.due("run with six failures set and none at first", y.run(MapReduceRun.ADDED), 0);
    }

    private static void bufferShowsInNoAnswer() {
        int[] buffers = {Integer.MIN_VALUE, -1, 0, 1, 2, 3, 4, 5, 6, 7, 8, 9, 100, Integer.MAX_VALUE};
        for (int buffer : buffers) {
            MapReduceRun x = new MapReduceRun(2, buffer);
            x.mapping(3, 1, 0);
            for (int split = 0; split < 4; split++) {
                for (int i = 0; i < 16; i++) {
                    x.addRecord(split, 100 - 7 * i * i, split * 16 + i);
                }
            }
            int[] want = new int[3];
            boolean[] there = new boolean[3];
            for (int q = 0; q < 3; q++) {
                want[q] = 7;
                for (int n = 0; n < 64; n++) {
                    if (Math.floorMod(100 - 7 * (n % 16) * (n % 16), 3) == q) {
                        want[q] = 31 * want[q] + n;
                        there[q] = true;
                    }
                }
            }
            // The squares are 0 or 1 mod 3, so the keys are 1 and 0 alone.
            CHECKS.due("key 2 is without pairs", there[2], false);
            CHECKS.due("buffer " + buffer + ": run(CHAIN)", x.run(MapReduceRun.CHAIN), 2);
            CHECKS.dueOutput("buffer " + buffer, x, Checks.part(0, want[0]), Checks.part(1, want[1]));
            CHECKS.due("buffer " + buffer + ": mapped()", x.mapped(), 64);
        }
    }

    private static void objectsShareNothing() {
        MapReduceRun x = new MapReduceRun(1, 2);
        MapReduceRun y = new MapReduceRun(1, 2);
        x.addRecord(0, 1, 1);
        x.mapping(2, 3, 4);
        x.bounds(5, 4);
        x.run(MapReduceRun.TALLY);
        CHECKS.due("another object's addRecord", y.addRecord(0, 9, 8), 1);
        CHECKS.due("another object's run", y.run(MapReduceRun.ADDED), 1);
        CHECKS.dueOutput("another object", y, Checks.part(9, 8));
    }
}
