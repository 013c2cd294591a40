/** Counts and prints the answers of a test that are not the ones that are due. */
final class Checks {
    private int wrong = 0;
    private String sentence = "";

    /** The words of the document that the checks to come are about. */
    void sentence(String words) {
        sentence = words;
    }

    void due(String call, long got, long want) {
        if (got != want) {
            wrong(call, got, want);
        }
    }

    void due(String call, boolean got, boolean want) {
        if (got != want) {
            wrong(call, got, want);
        }
    }

    private void wrong(String call, Object got, Object want) {
        wrong++;
        System.out.println("'" + sentence + "': " + call + " answered " + got + ", due is " + want);
    }

    /** The whole output: for each part its results as key, value, key, value and so on. */
    void dueOutput(String after, MapReduceRun x, int[]... parts) {
        for (int part = 0; part < parts.length; part++) {
            int[] want = parts[part];
            due(after + ": results(" + part + ")", x.results(part), want.length / 2);
            for (int i = 0; i < want.length / 2; i++) {
                due(after + ": keyAt(" + part + ", " + i + ")", x.keyAt(part, i), want[2 * i]);
                due(after + ": valueAt(" + part + ", " + i + ")", x.valueAt(part, i), want[2 * i + 1]);
            }
            due(after + ": keyAt past part " + part, x.keyAt(part, want.length / 2), MapReduceRun.BAD);
            due(after + ": valueAt past part " + part, x.valueAt(part, want.length / 2), 0);
        }
        due(after + ": results past the last part", x.results(parts.length), MapReduceRun.BAD);
    }

    static int[] part(int... keysAndValues) {
        return keysAndValues;
    }

    void end() {
        System.out.println(wrong == 0 ? "all answers are as due" : wrong + " answers are not as due");
        if (wrong != 0) {
            System.exit(1);
        }
    }
}
