/** Promise 1: a new object. */
public final class NewObjectTest {
    private static final Checks CHECKS = new Checks();
    private static final int LEAST = Integer.MIN_VALUE;
    private static final int GREATEST = Integer.MAX_VALUE;

    public static void main(String[] args) {
        partsAreClamped();
        anyBufferWillDo();
        bufferShowsInNoAnswer();
        noRecords();
        modulusIsSixteen();
        factorAndOffset();
        boundsAreTheWidest();
        noFailuresToCome();
        outputIsEmpty();
        objectsShareNothing();
        CHECKS.end();
    }

    private static void partsAreClamped() {
        CHECKS.sentence("P is parts clamped into 1..4");
        int[][] asked = {{LEAST, 1}, {-1, 1}, {0, 1}, {1, 1}, {2, 2}, {3, 3}, {4, 4}, {5, 4}, {GREATEST, 4}};
        for (int[] a : asked) {
            MapReduceRun x = new MapReduceRun(a[0], 4);
            for (int part = -1; part <= 5; part++) {
                boolean there = part >= 0 && part < a[1];
                CHECKS.due("parts " + a[0] + ": results(" + part + ")", x.results(part), there ? 0 : MapReduceRun.BAD);
                CHECKS.due("parts " + a[0] + ": failures(true, " + part + ", 0)", x.failures(true, part, 0), there);
            }
            x.addRecord(0, 11, 5);
            x.run(MapReduceRun.ADDED);
            CHECKS.due("parts " + a[0] + ": the part of key 11", x.results(11 % a[1]), 1);
        }
    }

    // The clamping itself shows in no answer: all that can be due is that no buffer, inside 2..8 or not, makes an answer wrong.
    private static void anyBufferWillDo() {
        CHECKS.sentence("buffer, clamped into 2..8, is the number of pairs that a map task sorts at once");
        int[] buffers = {LEAST, -8, -1, 0, 1, 2, 3, 7, 8, 9, 15, 16, 17, 64, 65, GREATEST};
        for (int buffer : buffers) {
            MapReduceRun x = new MapReduceRun(1, buffer);
            CHECKS.due("buffer " + buffer + ": run without records", x.run(MapReduceRun.ADDED), 0);
            for (int n = 1; n <= 16; n++) {
                x.addRecord(2, 16 - n, n);
                CHECKS.due("buffer " + buffer + ": run with " + n, x.run(MapReduceRun.ADDED), n);
                CHECKS.due("buffer " + buffer + ": the least key of " + n, x.keyAt(0, 0), 16 - n);
                CHECKS.due("buffer " + buffer + ": its value", x.valueAt(0, 0), n);
            }
        }
    }

    private static void bufferShowsInNoAnswer() {
        CHECKS.sentence("it shows in no answer");
        int[] buffers = {LEAST, -1, 0, 1, 2, 3, 4, 5, 6, 7, 8, 9, 100, GREATEST};
        for (int buffer : buffers) {
            MapReduceRun x = new MapReduceRun(2, buffer);
            x.mapping(3, 1, 0);
            for (int split = 0; split < 4; split++) {
                for (int i = 0; i < 16; i++) {
                    x.addRecord(split, 100 - 7 * i * i, split * 16 + i);
                }
            }
            int[] want = {7, 7, 7};
            for (int n = 0; n < 64; n++) {
                int q = Math.floorMod(100 - 7 * (n % 16) * (n % 16), 3);
                want[q] = 31 * want[q] + n;
            }
            // The squares are 0 or 1 mod 3, so the keys are 1 and 0 alone.
            CHECKS.due("key 2 is without pairs", want[2], 7);
            CHECKS.due("buffer " + buffer + ": run(CHAIN)", x.run(MapReduceRun.CHAIN), 2);
            CHECKS.dueOutput("buffer " + buffer, x, Checks.part(0, want[0]), Checks.part(1, want[1]));
            CHECKS.due("buffer " + buffer + ": mapped()", x.mapped(), 64);
        }
    }

    private static void noRecords() {
        CHECKS.sentence("No records");
        for (int split = 0; split < 4; split++) {
            CHECKS.due("emptySplit(" + split + ") at first", new MapReduceRun(4, 4).emptySplit(split), 0);
            CHECKS.due("addRecord(" + split + ", 1, 1) at first", new MapReduceRun(4, 4).addRecord(split, 1, 1), 1);
        }
        for (int reducer = 0; reducer <= 4; reducer++) {
            MapReduceRun x = new MapReduceRun(1, 4);
            CHECKS.due("run(" + reducer + ") at first", x.run(reducer), 0);
            CHECKS.dueOutput("run(" + reducer + ") at first", x, Checks.part());
            CHECKS.due("mapped() after run(" + reducer + ") at first", x.mapped(), 0);
        }
    }

    private static void modulusIsSixteen() {
        CHECKS.sentence("M is 16");
        MapReduceRun x = new MapReduceRun(1, 4);
        x.addRecord(0, 15, 1);
        x.addRecord(0, 16, 2);
        x.addRecord(0, 17, 3);
        x.addRecord(0, -2, 4);
        x.run(MapReduceRun.ADDED);
        CHECKS.dueOutput("at first", x, Checks.part(0, 2, 1, 3, 14, 4, 15, 1));
    }

    private static void factorAndOffset() {
        CHECKS.sentence("F 1, G 0");
        MapReduceRun x = new MapReduceRun(1, 4);
        x.addRecord(0, 0, 0);
        x.addRecord(0, 1, 1);
        x.addRecord(0, 2, -9);
        x.run(MapReduceRun.ADDED);
        CHECKS.dueOutput("at first", x, Checks.part(0, 0, 1, 1, 2, -9));
    }

    private static void boundsAreTheWidest() {
        CHECKS.sentence("L the least and U the greatest int");
        MapReduceRun x = new MapReduceRun(1, 4);
        x.addRecord(0, 0, LEAST);
        x.addRecord(0, 1, LEAST + 1);
        x.addRecord(0, 2, GREATEST - 1);
        x.addRecord(0, 3, GREATEST);
        CHECKS.due("run at first", x.run(MapReduceRun.ADDED), 4);
        CHECKS.dueOutput("at first", x, Checks.part(0, LEAST, 1, LEAST + 1, 2, GREATEST - 1, 3, GREATEST));
    }

    private static void noFailuresToCome() {
        CHECKS.sentence("no failures to come");
        // With six failures of two tasks, one more of any other task would give the job up.
        for (int a = 0; a < 8; a++) {
            MapReduceRun x = new MapReduceRun(4, 4);
            int b = (a + 1) % 8;
            x.failures(a >= 4, a % 4, 3);
            x.failures(b >= 4, b % 4, 3);
            CHECKS.due("the first run with six failures of " + a + " and " + b, x.run(MapReduceRun.ADDED), 0);
        }
    }

    private static void outputIsEmpty() {
        CHECKS.sentence("the output is empty");
        for (int parts = 1; parts <= 4; parts++) {
            MapReduceRun x = new MapReduceRun(parts, 4);
            x.addRecord(0, 0, 7);
            CHECKS.dueOutput("before any job", x, new int[parts][0]);
            CHECKS.due("feedBack() before any job", x.feedBack(), 0);
        }
    }

    private static void objectsShareNothing() {
        CHECKS.sentence("A new object");
        MapReduceRun x = new MapReduceRun(1, 2);
        MapReduceRun y = new MapReduceRun(1, 2);
        x.addRecord(0, 1, 1);
        x.mapping(2, 3, 4);
        x.bounds(5, 4);
        x.run(MapReduceRun.TALLY);
        CHECKS.due("another object's addRecord", y.addRecord(0, 9, 8), 1);
        CHECKS.due("another object's run", y.run(MapReduceRun.ADDED), 1);
        CHECKS.dueOutput("another object", y, Checks.part(9, 8));
    }
}
