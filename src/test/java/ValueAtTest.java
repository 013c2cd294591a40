/** Promise 9: valueAt. */
public final class ValueAtTest {
    private static final Checks CHECKS = new Checks();

    public static void main(String[] args) {
        valuesInOrder();
        extremeValues();
        firstAndLastOfEachPart();
        noneBeforeAnyJob();
        noneInAnEmptyPart();
        noneOutsideTheParts();
        noneOfAnOlderJob();
        noneAfterGivingUp();
        noneChangesNothing();
        CHECKS.end();
    }

    // No value is 0, so that the answer 0 tells that there is none.
    private static MapReduceRun allKeys(int parts) {
        MapReduceRun x = new MapReduceRun(parts, 8);
        for (int key = 15; key >= 0; key--) {
            x.addRecord(key / 4, key, 100 + key);
        }
        x.run(MapReduceRun.ADDED);
        return x;
    }

    private static void valuesInOrder() {
        CHECKS.sentence("The value of result number i of a part");
        MapReduceRun x = new MapReduceRun(3, 2);
        x.addRecord(1, 9, 90);
        x.addRecord(1, 1, 10);
        x.addRecord(0, 3, 30);
        x.run(MapReduceRun.ADDED);
        CHECKS.due("valueAt(0, 0)", x.valueAt(0, 0), 30);
        CHECKS.due("valueAt(0, 1)", x.valueAt(0, 1), 90);
        CHECKS.due("valueAt(1, 0)", x.valueAt(1, 0), 10);
    }

    private static void extremeValues() {
        CHECKS.sentence("The value of result number i of a part");
        MapReduceRun x = new MapReduceRun(1, 2);
        int[] values = {Integer.MIN_VALUE, -3, -2, -1, 0, 1, Integer.MAX_VALUE};
        for (int i = 0; i < values.length; i++) {
            x.addRecord(0, i, values[i]);
        }
        x.run(MapReduceRun.ADDED);
        for (int i = 0; i < values.length; i++) {
            CHECKS.due("valueAt(0, " + i + ")", x.valueAt(0, i), values[i]);
        }
    }

    private static void firstAndLastOfEachPart() {
        CHECKS.sentence("0 if there is none");
        for (int parts = 1; parts <= 4; parts++) {
            MapReduceRun x = allKeys(parts);
            for (int part = 0; part < parts; part++) {
                int last = (15 - part) / parts;
                String of = " of part " + part + " of " + parts;
                CHECKS.due("value -1" + of, x.valueAt(part, -1), 0);
                CHECKS.due("the first value" + of, x.valueAt(part, 0), 100 + part);
                CHECKS.due("the last value" + of, x.valueAt(part, last), 100 + part + last * parts);
                CHECKS.due("the value past it" + of, x.valueAt(part, last + 1), 0);
                for (int i : new int[] {Integer.MIN_VALUE, -16, 16, 17, 64, Integer.MAX_VALUE}) {
                    CHECKS.due("value " + i + of, x.valueAt(part, i), 0);
                }
            }
        }
    }

    private static void noneBeforeAnyJob() {
        CHECKS.sentence("0 if there is none");
        MapReduceRun x = new MapReduceRun(4, 2);
        x.addRecord(0, 0, 1);
        for (int part = 0; part < 4; part++) {
            CHECKS.due("valueAt(" + part + ", 0) before any job", x.valueAt(part, 0), 0);
        }
    }

    private static void noneInAnEmptyPart() {
        CHECKS.sentence("0 if there is none");
        MapReduceRun x = new MapReduceRun(2, 2);
        x.addRecord(0, 4, 1);
        x.run(MapReduceRun.ADDED);
        CHECKS.due("valueAt(0, 0)", x.valueAt(0, 0), 1);
        CHECKS.due("valueAt(1, 0) of the empty part", x.valueAt(1, 0), 0);
    }

    private static void noneOutsideTheParts() {
        CHECKS.sentence("0 if there is none");
        for (int parts = 1; parts <= 4; parts++) {
            MapReduceRun x = allKeys(parts);
            for (int part : new int[] {Integer.MIN_VALUE, -1, parts, parts + 1, 4, 5, Integer.MAX_VALUE}) {
                for (int i : new int[] {Integer.MIN_VALUE, -16, -1, 0, 1, 15, 16, Integer.MAX_VALUE}) {
                    CHECKS.due("valueAt(" + part + ", " + i + ") with " + parts + " parts", x.valueAt(part, i), 0);
                }
            }
        }
    }

    private static void noneOfAnOlderJob() {
        CHECKS.sentence("0 if there is none");
        MapReduceRun x = allKeys(2);
        x.bounds(100, 100);
        x.run(MapReduceRun.ADDED);
        CHECKS.due("valueAt(0, 0) of the smaller job", x.valueAt(0, 0), 100);
        CHECKS.due("valueAt(0, 1) of the smaller job", x.valueAt(0, 1), 0);
        CHECKS.due("valueAt(1, 0) of the smaller job", x.valueAt(1, 0), 0);
    }

    private static void noneAfterGivingUp() {
        CHECKS.sentence("0 if there is none");
        MapReduceRun x = allKeys(1);
        x.failures(false, 0, 3);
        x.failures(false, 1, 3);
        x.failures(false, 2, 1);
        x.run(MapReduceRun.ADDED);
        CHECKS.due("valueAt(0, 0) of the job that is given up", x.valueAt(0, 0), 0);
    }

    private static void noneChangesNothing() {
        CHECKS.sentence("0 if there is none");
        Twins twins = new Twins(CHECKS);
        for (int i : new int[] {Integer.MIN_VALUE, -1, 16, Integer.MAX_VALUE}) {
            twins.changesNothing("valueAt(0, " + i + ")", 0, x -> x.valueAt(0, i));
        }
        twins.changesNothing("valueAt(0, results(0))", 0, x -> x.valueAt(0, x.results(0)));
        twins.changesNothing("valueAt(-1, 0)", 0, x -> x.valueAt(-1, 0));
        twins.changesNothing("valueAt(4, 0)", 0, x -> x.valueAt(4, 0));
    }
}
