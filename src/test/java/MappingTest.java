/** Promise 3: mapping, and the terms' rule for a pair's key and value. */
public final class MappingTest {
    private static final Checks CHECKS = new Checks();

    public static void main(String[] args) {
        modulusIsLookedAt();
        refusalChangesNothing();
        keysAreFromZero();
        valuesWrap();
        onlyJobsToCome();
        CHECKS.end();
    }

    private static void modulusIsLookedAt() {
        MapReduceRun x = new MapReduceRun(1, 2);
        for (int modulus = -3; modulus <= 20; modulus++) {
            CHECKS.due("mapping(" + modulus + ", 1, 0)", x.mapping(modulus, 1, 0), modulus >= 1 && modulus <= 16);
        }
        CHECKS.due("mapping(least int, 1, 0)", x.mapping(Integer.MIN_VALUE, 1, 0), false);
        CHECKS.due("mapping(greatest int, 1, 0)", x.mapping(Integer.MAX_VALUE, 1, 0), false);
    }

    private static void refusalChangesNothing() {
        MapReduceRun x = new MapReduceRun(1, 2);
        x.addRecord(0, 7, 10);
        x.mapping(5, 2, 1);
        x.mapping(0, 100, 100);
        x.mapping(17, 200, 200);
        x.mapping(-5, 300, 300);
        x.run(MapReduceRun.ADDED);
        CHECKS.dueOutput("after refusals", x, Checks.part(2, 21));
    }

    private static void keysAreFromZero() {
        int[] keys = {Integer.MIN_VALUE, Integer.MIN_VALUE + 1, -17, -16, -15, -1, 0, 1, 15, 16, 17, Integer.MAX_VALUE};
        for (int modulus = 1; modulus <= 16; modulus++) {
            MapReduceRun x = new MapReduceRun(1, 2);
            x.mapping(modulus, 1, 0);
            for (int key : keys) {
                x.emptySplit(1);
                x.addRecord(1, key, 1);
                x.run(MapReduceRun.ADDED);
                CHECKS.due(key + " mod " + modulus, x.keyAt(0, 0), Math.floorMod(key, modulus));
            }
        }
    }

    private static void valuesWrap() {
        int[] numbers = {Integer.MIN_VALUE, -3, -1, 0, 1, 2, 65536, Integer.MAX_VALUE};
        MapReduceRun x = new MapReduceRun(1, 2);
        x.addRecord(0, 0, Integer.MAX_VALUE);
        x.addRecord(0, 1, Integer.MIN_VALUE);
        x.addRecord(0, 2, 123456);
        for (int factor : numbers) {
            for (int offset : numbers) {
                x.mapping(16, factor, offset);
                x.run(MapReduceRun.LARGEST);
                String after = "factor " + factor + ", offset " + offset;
                CHECKS.due(after, x.valueAt(0, 0), factor * Integer.MAX_VALUE + offset);
                CHECKS.due(after, x.valueAt(0, 1), factor * Integer.MIN_VALUE + offset);
                CHECKS.due(after, x.valueAt(0, 2), factor * 123456 + offset);
            }
        }
    }

    private static void onlyJobsToCome() {
        MapReduceRun x = new MapReduceRun(1, 2);
        x.addRecord(0, 9, 4);
        x.run(MapReduceRun.ADDED);
        x.mapping(2, 5, 5);
        CHECKS.dueOutput("the output before the next job", x, Checks.part(9, 4));
        x.run(MapReduceRun.ADDED);
        CHECKS.dueOutput("the next job", x, Checks.part(1, 25));
        x.run(MapReduceRun.ADDED);
        CHECKS.dueOutput("the job after it", x, Checks.part(1, 25));
    }
}
