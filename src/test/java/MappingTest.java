/** Promise 3: mapping. */
public final class MappingTest {
    private static final Checks CHECKS = new Checks();
    private static final int[] OUTSIDE = {Integer.MIN_VALUE, -16, -1, 0, 17, 18, Integer.MAX_VALUE};

    public static void main(String[] args) {
        refusedModulus();
        refusalKeepsEachSetting();
        refusalChangesNothing();
        takenModulus();
        anyFactorAndOffset();
        onlyJobsToCome();
        CHECKS.end();
    }

    private static void refusedModulus() {
        CHECKS.sentence("modulus outside 1..16: refused, answers false");
        MapReduceRun x = new MapReduceRun(1, 2);
        for (int modulus : OUTSIDE) {
            CHECKS.due("mapping(" + modulus + ", 1, 0)", x.mapping(modulus, 1, 0), false);
        }
    }

    private static void refusalKeepsEachSetting() {
        CHECKS.sentence("modulus outside 1..16: refused, answers false");
        for (int modulus : OUTSIDE) {
            MapReduceRun x = new MapReduceRun(1, 2);
            x.addRecord(0, 7, 10);
            x.mapping(5, 2, 1);
            x.mapping(modulus, 100, 1000);
            x.run(MapReduceRun.ADDED);
            CHECKS.dueOutput("after mapping(" + modulus + ", 100, 1000)", x, Checks.part(2, 21));
        }
    }

    private static void refusalChangesNothing() {
        CHECKS.sentence("modulus outside 1..16: refused, answers false");
        Twins twins = new Twins(CHECKS);
        for (int modulus : OUTSIDE) {
            twins.changesNothing("mapping(" + modulus + ", 7, 9)", 0, x -> x.mapping(modulus, 7, 9) ? 1 : 0);
        }
    }

    private static void takenModulus() {
        CHECKS.sentence("Else true");
        for (int modulus = 1; modulus <= 16; modulus++) {
            MapReduceRun x = new MapReduceRun(1, 2);
            CHECKS.due("mapping(" + modulus + ", 2, 3)", x.mapping(modulus, 2, 3), true);
            x.addRecord(0, modulus - 1, 1);
            x.addRecord(0, modulus, 10);
            CHECKS.due("run with modulus " + modulus, x.run(MapReduceRun.ADDED), modulus == 1 ? 1 : 2);
            CHECKS.due("the least key", x.keyAt(0, 0), 0);
            CHECKS.due("its value", x.valueAt(0, 0), modulus == 1 ? 28 : 23);
            CHECKS.due("the second key", x.keyAt(0, 1), modulus == 1 ? MapReduceRun.BAD : modulus - 1);
            CHECKS.due("its value", x.valueAt(0, 1), modulus == 1 ? 0 : 5);
        }
    }

    private static void anyFactorAndOffset() {
        CHECKS.sentence("Sets M, F and G");
        int[] numbers = {Integer.MIN_VALUE, -3, -1, 0, 1, 2, 65536, Integer.MAX_VALUE};
        MapReduceRun x = new MapReduceRun(1, 2);
        x.addRecord(0, 0, Integer.MAX_VALUE);
        x.addRecord(0, 1, Integer.MIN_VALUE);
        x.addRecord(0, 2, 123456);
        for (int factor : numbers) {
            for (int offset : numbers) {
                String after = "factor " + factor + ", offset " + offset;
                CHECKS.due(after, x.mapping(16, factor, offset), true);
                x.run(MapReduceRun.LARGEST);
                CHECKS.due(after, x.valueAt(0, 0), factor * Integer.MAX_VALUE + offset);
                CHECKS.due(after, x.valueAt(0, 1), factor * Integer.MIN_VALUE + offset);
                CHECKS.due(after, x.valueAt(0, 2), factor * 123456 + offset);
            }
        }
    }

    private static void onlyJobsToCome() {
        CHECKS.sentence("Sets M, F and G for jobs to come");
        MapReduceRun x = new MapReduceRun(1, 2);
        x.addRecord(0, 9, 4);
        x.run(MapReduceRun.ADDED);
        x.mapping(2, 5, 5);
        CHECKS.dueOutput("the output before the next job", x, Checks.part(9, 4));
        x.run(MapReduceRun.ADDED);
        CHECKS.dueOutput("the next job", x, Checks.part(1, 25));
        x.run(MapReduceRun.ADDED);
        CHECKS.dueOutput("the job after it", x, Checks.part(1, 25));
    }
}
