/** Promise 7: results. */
public final class ResultsTest {
    private static final Checks CHECKS = new Checks();

    public static void main(String[] args) {
        numberOfResults();
        emptyAndFullParts();
        badPart();
        badPartChangesNothing();
        lookingChangesNothing();
        CHECKS.end();
    }

    private static void numberOfResults() {
        CHECKS.sentence("The number of results in a part of the output");
        MapReduceRun x = new MapReduceRun(3, 2);
        x.addRecord(1, 9, 90);
        x.addRecord(1, 1, 10);
        x.addRecord(0, 3, 30);
        x.addRecord(0, 19, 30);
        x.run(MapReduceRun.ADDED);
        CHECKS.due("results(0)", x.results(0), 2);
        CHECKS.due("results(1)", x.results(1), 1);
        CHECKS.due("results(2)", x.results(2), 0);
        x.bounds(90, 90);
        x.run(MapReduceRun.ADDED);
        CHECKS.due("results(0) of the smaller job", x.results(0), 1);
        CHECKS.due("results(1) of the smaller job", x.results(1), 0);
    }

    private static void emptyAndFullParts() {
        CHECKS.sentence("The number of results in a part of the output");
        int[][] want = {{16}, {8, 8}, {6, 5, 5}, {4, 4, 4, 4}};
        for (int parts = 1; parts <= 4; parts++) {
            MapReduceRun x = new MapReduceRun(parts, 2);
            for (int key = 0; key < 16; key++) {
                x.addRecord(key / 4, key, 1);
            }
            for (int part = 0; part < parts; part++) {
                CHECKS.due("results(" + part + ") of " + parts + " before any job", x.results(part), 0);
            }
            x.run(MapReduceRun.ADDED);
            for (int part = 0; part < parts; part++) {
                CHECKS.due("results(" + part + ") of " + parts, x.results(part), want[parts - 1][part]);
            }
        }
    }

    private static void badPart() {
        CHECKS.sentence("BAD for part outside 0..P-1");
        for (int parts = 1; parts <= 4; parts++) {
            for (Past past : Past.values()) {
                MapReduceRun x = past.make(parts);
                for (int part : new int[] {Integer.MIN_VALUE, -1, parts, parts + 1, 4, 5, 16, Integer.MAX_VALUE}) {
                    CHECKS.due(past + ": results(" + part + ") of " + parts, x.results(part), -1);
                }
                CHECKS.due(past + ": results(0) is not BAD", x.results(0) >= 0, true);
                CHECKS.due(past + ": results(P-1) is not BAD", x.results(parts - 1) >= 0, true);
            }
        }
    }

    private static void badPartChangesNothing() {
        CHECKS.sentence("BAD for part outside 0..P-1");
        Twins twins = new Twins(CHECKS);
        for (int parts = 1; parts <= 4; parts++) {
            for (int part : new int[] {Integer.MIN_VALUE, -1, parts, Integer.MAX_VALUE}) {
                twins.changesNothing(parts, "results(" + part + ")", MapReduceRun.BAD, x -> x.results(part));
            }
        }
    }

    private static void lookingChangesNothing() {
        CHECKS.sentence("The number of results in a part of the output");
        Twins twins = new Twins(CHECKS);
        twins.changesNothing("results(0), keyAt(0, 0), valueAt(0, 0) and mapped()", 0,
                x -> 0 & (x.results(0) + x.keyAt(0, 0) + x.valueAt(0, 0) + x.mapped()));
    }
}
