/** Promise 8: keyAt. */
public final class KeyAtTest {
    private static final Checks CHECKS = new Checks();

    public static void main(String[] args) {
        keysInOrder();
        firstAndLastOfEachPart();
        noneBeforeAnyJob();
        noneInAnEmptyPart();
        noneOutsideTheParts();
        noneOfAnOlderJob();
        noneAfterGivingUp();
        badChangesNothing();
        CHECKS.end();
    }

    private static MapReduceRun allKeys(int parts) {
        MapReduceRun x = new MapReduceRun(parts, 8);
        for (int key = 0; key < 16; key++) {
            x.addRecord(key / 4, 15 - key, key);
        }
        x.run(MapReduceRun.ADDED);
        return x;
    }

    private static void keysInOrder() {
        CHECKS.sentence("The key of result number i (0 first) of a part");
        MapReduceRun x = new MapReduceRun(3, 2);
        x.addRecord(1, 9, 90);
        x.addRecord(1, 1, 10);
        x.addRecord(0, 3, 30);
        x.run(MapReduceRun.ADDED);
        CHECKS.due("keyAt(0, 0)", x.keyAt(0, 0), 3);
        CHECKS.due("keyAt(0, 1)", x.keyAt(0, 1), 9);
        CHECKS.due("keyAt(1, 0)", x.keyAt(1, 0), 1);
    }

    private static void firstAndLastOfEachPart() {
        CHECKS.sentence("BAD if there is none");
        for (int parts = 1; parts <= 4; parts++) {
            MapReduceRun x = allKeys(parts);
            for (int part = 0; part < parts; part++) {
                int last = (15 - part) / parts;
                String of = " of part " + part + " of " + parts;
                CHECKS.due("key -1" + of, x.keyAt(part, -1), -1);
                CHECKS.due("the first key" + of, x.keyAt(part, 0), part);
                CHECKS.due("the last key" + of, x.keyAt(part, last), part + last * parts);
                CHECKS.due("the key past it" + of, x.keyAt(part, last + 1), -1);
                for (int i : new int[] {Integer.MIN_VALUE, -16, 16, 17, 64, Integer.MAX_VALUE}) {
                    CHECKS.due("key " + i + of, x.keyAt(part, i), -1);
                }
            }
        }
    }

    private static void noneBeforeAnyJob() {
        CHECKS.sentence("BAD if there is none");
        MapReduceRun x = new MapReduceRun(4, 2);
        x.addRecord(0, 0, 1);
        for (int part = 0; part < 4; part++) {
            CHECKS.due("keyAt(" + part + ", 0) before any job", x.keyAt(part, 0), -1);
        }
    }

    private static void noneInAnEmptyPart() {
        CHECKS.sentence("BAD if there is none");
        MapReduceRun x = new MapReduceRun(2, 2);
        x.addRecord(0, 4, 1);
        x.run(MapReduceRun.ADDED);
        CHECKS.due("keyAt(0, 0)", x.keyAt(0, 0), 4);
        CHECKS.due("keyAt(1, 0) of the empty part", x.keyAt(1, 0), -1);
    }

    private static void noneOutsideTheParts() {
        CHECKS.sentence("BAD if there is none");
        for (int parts = 1; parts <= 4; parts++) {
            MapReduceRun x = allKeys(parts);
            for (int part : new int[] {Integer.MIN_VALUE, -1, parts, parts + 1, 4, 5, Integer.MAX_VALUE}) {
                for (int i : new int[] {Integer.MIN_VALUE, -16, -1, 0, 1, 15, 16, Integer.MAX_VALUE}) {
                    CHECKS.due("keyAt(" + part + ", " + i + ") with " + parts + " parts", x.keyAt(part, i), -1);
                }
            }
        }
    }

    private static void noneOfAnOlderJob() {
        CHECKS.sentence("BAD if there is none");
        MapReduceRun x = allKeys(2);
        x.bounds(15, 15);
        x.run(MapReduceRun.ADDED);
        CHECKS.due("keyAt(0, 0) of the smaller job", x.keyAt(0, 0), 0);
        CHECKS.due("keyAt(0, 1) of the smaller job", x.keyAt(0, 1), -1);
        CHECKS.due("keyAt(1, 0) of the smaller job", x.keyAt(1, 0), -1);
    }

    private static void noneAfterGivingUp() {
        CHECKS.sentence("BAD if there is none");
        MapReduceRun x = allKeys(1);
        x.failures(false, 0, 3);
        x.failures(false, 1, 3);
        x.failures(false, 2, 1);
        x.run(MapReduceRun.ADDED);
        CHECKS.due("keyAt(0, 0) of the job that is given up", x.keyAt(0, 0), -1);
    }

    private static void badChangesNothing() {
        CHECKS.sentence("BAD if there is none");
        Twins twins = new Twins(CHECKS);
        for (int i : new int[] {Integer.MIN_VALUE, -1, 16, Integer.MAX_VALUE}) {
            twins.changesNothing("keyAt(0, " + i + ")", -1, x -> x.keyAt(0, i));
        }
        twins.changesNothing("keyAt(0, results(0))", -1, x -> x.keyAt(0, x.results(0)));
        twins.changesNothing("keyAt(-1, 0)", -1, x -> x.keyAt(-1, 0));
        twins.changesNothing("keyAt(4, 0)", -1, x -> x.keyAt(4, 0));
    }
}
