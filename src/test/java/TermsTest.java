/** The terms: records, pairs, results and parts. */
public final class TermsTest {
    private static final Checks CHECKS = new Checks();
    private static final int LEAST = Integer.MIN_VALUE;
    private static final int GREATEST = Integer.MAX_VALUE;

    public static void main(String[] args) {
        fourSplits();
        sixteenRecords();
        anyInts();
        everyRecordOfEverySplit();
        droppedRecords();
        keysFromZero();
        valuesWrap();
        onlyKeysOfPairs();
        sumsWrap();
        greatestOfAll();
        leastOfAll();
        numberOfAll();
        chainBeginsWithSeven();
        chainWraps();
        chainGoesSplitBySplit();
        partOfAKey();
        fewerKeysThanParts();
        orderedByKey();
        CHECKS.end();
    }

    /** One part, and one record in split 0 for each value, all with key 0. */
    private static MapReduceRun withValues(int... values) {
        MapReduceRun x = new MapReduceRun(1, 2);
        for (int value : values) {
            x.addRecord(0, 0, value);
        }
        return x;
    }

    private static int resultOf(int reducer, int... values) {
        MapReduceRun x = withValues(values);
        CHECKS.due("run(" + reducer + ")", x.run(reducer), 1);
        return x.valueAt(0, 0);
    }

    private static void fourSplits() {
        CHECKS.sentence("The INPUT has four splits, 0 to 3");
        MapReduceRun x = new MapReduceRun(1, 2);
        CHECKS.due("addRecord(-1, 1, 1)", x.addRecord(-1, 1, 1), MapReduceRun.BAD);
        CHECKS.due("addRecord(0, 1, 1)", x.addRecord(0, 1, 1), 1);
        CHECKS.due("addRecord(1, 1, 1)", x.addRecord(1, 1, 1), 1);
        CHECKS.due("addRecord(2, 1, 1)", x.addRecord(2, 1, 1), 1);
        CHECKS.due("addRecord(3, 1, 1)", x.addRecord(3, 1, 1), 1);
        CHECKS.due("addRecord(4, 1, 1)", x.addRecord(4, 1, 1), MapReduceRun.BAD);
        x.run(MapReduceRun.TALLY);
        CHECKS.dueOutput("one record in each", x, Checks.part(1, 4));
    }

    private static void sixteenRecords() {
        CHECKS.sentence("each a list of up to 16 records");
        for (int split = 0; split < 4; split++) {
            MapReduceRun x = new MapReduceRun(1, 2);
            for (int n = 1; n <= 15; n++) {
                x.addRecord(split, 2, n);
            }
            CHECKS.due("the sixteenth record of split " + split, x.addRecord(split, 2, 16), 16);
            CHECKS.due("the seventeenth record of split " + split, x.addRecord(split, 2, 17), MapReduceRun.FULL);
            x.run(MapReduceRun.LARGEST);
            CHECKS.dueOutput("the last of split " + split, x, Checks.part(2, 16));
            CHECKS.due("mapped() with full split " + split, x.mapped(), 16);
        }
    }

    private static void anyInts() {
        CHECKS.sentence("a record has a key and a value, any ints");
        int[] ints = {LEAST, LEAST + 1, -1, 0, 1, GREATEST - 1, GREATEST};
        MapReduceRun x = new MapReduceRun(1, 2);
        for (int key : ints) {
            for (int value : ints) {
                x.emptySplit(0);
                CHECKS.due("addRecord(0, " + key + ", " + value + ")", x.addRecord(0, key, value), 1);
                x.run(MapReduceRun.ADDED);
                CHECKS.due("keyAt of key " + key, x.keyAt(0, 0), Math.floorMod(key, 16));
                CHECKS.due("valueAt of value " + value, x.valueAt(0, 0), value);
            }
        }
    }

    private static void everyRecordOfEverySplit() {
        CHECKS.sentence("A JOB maps every record of every split to at most one PAIR");
        MapReduceRun x = new MapReduceRun(1, 3);
        for (int n = 0; n < 64; n++) {
            x.addRecord(n / 16, n, 1 << (n % 31));
        }
        CHECKS.due("run(TALLY)", x.run(MapReduceRun.TALLY), 16);
        for (int i = 0; i < 16; i++) {
            CHECKS.due("the pairs of key " + i, x.valueAt(0, i), 4);
        }
        CHECKS.due("mapped()", x.mapped(), 64);
    }

    private static void droppedRecords() {
        CHECKS.sentence("DROPPED if v < L or v > U");
        int[][] bounds = {{-5, 7}, {0, 0}, {1, GREATEST}, {LEAST, -1}, {LEAST, GREATEST}, {LEAST + 1, GREATEST - 1},
            {GREATEST, GREATEST}, {LEAST, LEAST}, {3, 2}, {GREATEST, LEAST}};
        for (int[] b : bounds) {
            long[] values = {b[0] - 1L, b[0], b[0] + 1L, b[1] - 1L, b[1], b[1] + 1L, 0};
            for (long value : values) {
                if (value < LEAST || value > GREATEST) {
                    continue;
                }
                MapReduceRun x = withValues((int) value);
                x.bounds(b[0], b[1]);
                int want = value < b[0] || value > b[1] ? 0 : 1;
                String of = " of value " + value + " within " + b[0] + ".." + b[1];
                CHECKS.due("run(ADDED)" + of, x.run(MapReduceRun.ADDED), want);
                CHECKS.due("mapped()" + of, x.mapped(), want);
            }
        }
    }

    private static void keysFromZero() {
        CHECKS.sentence("k mod M, the one from 0 to M-1, also for negative k");
        for (int m = 1; m <= 16; m++) {
            int[] keys = {LEAST, LEAST + 1, -2 * m, -m - 1, -m, -m + 1, -1, 0, 1, m - 1, m, m + 1, 2 * m, GREATEST - 1, GREATEST};
            MapReduceRun x = new MapReduceRun(1, 2);
            x.mapping(m, 1, 0);
            for (int key : keys) {
                x.emptySplit(1);
                x.addRecord(1, key, 1);
                x.run(MapReduceRun.ADDED);
                CHECKS.due(key + " mod " + m, x.keyAt(0, 0), Math.floorMod(key, m));
            }
        }
        MapReduceRun x = new MapReduceRun(1, 2);
        x.mapping(3, 1, 0);
        x.addRecord(0, -4, 1);
        x.addRecord(0, -3, 10);
        x.addRecord(0, -2, 100);
        x.addRecord(0, -1, 1000);
        x.addRecord(0, 2, 10000);
        x.run(MapReduceRun.ADDED);
        CHECKS.dueOutput("negative keys join the groups of the others", x, Checks.part(0, 10, 1, 100, 2, 11001));
    }

    private static void valuesWrap() {
        CHECKS.sentence("the value F * v + G (wrapping as in Java)");
        mapsTo(1, 0, GREATEST, GREATEST);
        mapsTo(1, 1, GREATEST - 1, GREATEST);
        mapsTo(1, 1, GREATEST, LEAST);
        mapsTo(1, -1, LEAST + 1, LEAST);
        mapsTo(1, -1, LEAST, GREATEST);
        mapsTo(-1, 0, LEAST + 1, GREATEST);
        mapsTo(-1, 0, LEAST, LEAST);
        mapsTo(2, 0, 1073741823, 2147483646);
        mapsTo(2, 0, 1073741824, LEAST);
        mapsTo(2, 0, -1073741824, LEAST);
        mapsTo(2, 0, -1073741825, 2147483646);
        mapsTo(46341, 0, 46340, 2147441940);
        mapsTo(46341, 0, 46341, -2147479015);
        mapsTo(65536, 0, 65536, 0);
        mapsTo(65536, 5, 65537, 65541);
        mapsTo(LEAST, LEAST, 1, 0);
        mapsTo(LEAST, 0, 2, 0);
        mapsTo(GREATEST, GREATEST, GREATEST, LEAST);
        // The product wraps and the sum leads back.
        mapsTo(2, LEAST, 1073741824, 0);
        mapsTo(0, 9, LEAST, 9);
    }

    private static void mapsTo(int factor, int offset, int value, int want) {
        MapReduceRun x = withValues(value);
        x.mapping(16, factor, offset);
        x.run(MapReduceRun.LARGEST);
        CHECKS.due(factor + " * " + value + " + " + offset, x.valueAt(0, 0), want);
    }

    private static void onlyKeysOfPairs() {
        CHECKS.sentence("The RESULT of a key that some pair has");
        MapReduceRun x = new MapReduceRun(1, 2);
        x.addRecord(0, 3, 5);
        x.addRecord(0, 3, -5);
        x.addRecord(0, 4, 50);
        x.addRecord(0, 6, 0);
        x.bounds(-5, 5);
        CHECKS.due("run(ADDED)", x.run(MapReduceRun.ADDED), 2);
        CHECKS.dueOutput("a sum of 0 is a result, a key of dropped records has none", x, Checks.part(3, 0, 6, 0));
    }

    private static void sumsWrap() {
        CHECKS.sentence("ADDED their sum (wrapping)");
        CHECKS.due("one value", resultOf(MapReduceRun.ADDED, -3), -3);
        CHECKS.due("up to the greatest int", resultOf(MapReduceRun.ADDED, GREATEST - 1, 1), GREATEST);
        CHECKS.due("one past the greatest int", resultOf(MapReduceRun.ADDED, GREATEST, 1), LEAST);
        CHECKS.due("down to the least int", resultOf(MapReduceRun.ADDED, LEAST + 1, -1), LEAST);
        CHECKS.due("one past the least int", resultOf(MapReduceRun.ADDED, LEAST, -1), GREATEST);
        CHECKS.due("twice the greatest int", resultOf(MapReduceRun.ADDED, GREATEST, GREATEST), -2);
        CHECKS.due("twice the least int", resultOf(MapReduceRun.ADDED, LEAST, LEAST), 0);
        CHECKS.due("past and back", resultOf(MapReduceRun.ADDED, GREATEST, 5, -5), GREATEST);
    }

    private static void greatestOfAll() {
        CHECKS.sentence("LARGEST the greatest");
        CHECKS.due("the least int alone", resultOf(MapReduceRun.LARGEST, LEAST), LEAST);
        CHECKS.due("one below 0", resultOf(MapReduceRun.LARGEST, -2, -1, -3), -1);
        CHECKS.due("the first", resultOf(MapReduceRun.LARGEST, 4, 3, 2, 1), 4);
        CHECKS.due("the last", resultOf(MapReduceRun.LARGEST, 1, 2, 3, 4), 4);
        CHECKS.due("the same twice", resultOf(MapReduceRun.LARGEST, 4, 4), 4);
        CHECKS.due("least and greatest int", resultOf(MapReduceRun.LARGEST, LEAST, GREATEST, LEAST), GREATEST);
    }

    private static void leastOfAll() {
        CHECKS.sentence("SMALLEST the least");
        CHECKS.due("the greatest int alone", resultOf(MapReduceRun.SMALLEST, GREATEST), GREATEST);
        CHECKS.due("one above 0", resultOf(MapReduceRun.SMALLEST, 2, 1, 3), 1);
        CHECKS.due("the first", resultOf(MapReduceRun.SMALLEST, 1, 2, 3, 4), 1);
        CHECKS.due("the last", resultOf(MapReduceRun.SMALLEST, 4, 3, 2, 1), 1);
        CHECKS.due("the same twice", resultOf(MapReduceRun.SMALLEST, 4, 4), 4);
        CHECKS.due("greatest and least int", resultOf(MapReduceRun.SMALLEST, GREATEST, LEAST, GREATEST), LEAST);
    }

    private static void numberOfAll() {
        CHECKS.sentence("TALLY their number");
        CHECKS.due("one value", resultOf(MapReduceRun.TALLY, GREATEST), 1);
        CHECKS.due("equal values", resultOf(MapReduceRun.TALLY, 0, 0, 0), 3);
        MapReduceRun x = new MapReduceRun(1, 8);
        for (int n = 0; n < 64; n++) {
            x.addRecord(n % 4, 16 * n, LEAST);
        }
        CHECKS.due("run(TALLY)", x.run(MapReduceRun.TALLY), 1);
        CHECKS.due("all that fit", x.valueAt(0, 0), 64);
    }

    private static void chainBeginsWithSeven() {
        CHECKS.sentence("where h begins with 7 and for each value w becomes 31 * h + w");
        CHECKS.due("one 0", resultOf(MapReduceRun.CHAIN, 0), 217);
        CHECKS.due("one 1", resultOf(MapReduceRun.CHAIN, 1), 218);
        CHECKS.due("1, 2", resultOf(MapReduceRun.CHAIN, 1, 2), 6760);
        CHECKS.due("2, 1", resultOf(MapReduceRun.CHAIN, 2, 1), 6790);
        MapReduceRun x = new MapReduceRun(1, 2);
        x.addRecord(0, 1, 1);
        x.addRecord(0, 2, 1);
        x.run(MapReduceRun.CHAIN);
        CHECKS.dueOutput("each key begins anew", x, Checks.part(1, 218, 2, 218));
    }

    private static void chainWraps() {
        CHECKS.sentence("31 * h + w (wrapping)");
        CHECKS.due("up to the greatest int", resultOf(MapReduceRun.CHAIN, GREATEST - 217), GREATEST);
        CHECKS.due("one past it", resultOf(MapReduceRun.CHAIN, GREATEST - 216), LEAST);
        CHECKS.due("the greatest int", resultOf(MapReduceRun.CHAIN, GREATEST), LEAST + 216);
        int want = 7;
        int[] values = new int[16];
        for (int i = 0; i < 16; i++) {
            values[i] = i % 2 == 0 ? GREATEST : LEAST;
            want = 31 * want + values[i];
        }
        CHECKS.due("sixteen values", resultOf(MapReduceRun.CHAIN, values), want);
    }

    private static void chainGoesSplitBySplit() {
        CHECKS.sentence("the pairs taken split by split (0 first) and within a split in the records' order");
        for (int buffer = 2; buffer <= 8; buffer++) {
            MapReduceRun x = new MapReduceRun(1, buffer);
            for (int i = 0; i < 16; i++) {
                for (int split = 3; split >= 0; split--) {
                    x.addRecord(split, 15 - i % 3, split * 16 + i);
                }
            }
            int[] want = {7, 7, 7};
            for (int n = 0; n < 64; n++) {
                want[n % 16 % 3] = 31 * want[n % 16 % 3] + n;
            }
            CHECKS.due("run(CHAIN), buffer " + buffer, x.run(MapReduceRun.CHAIN), 3);
            CHECKS.dueOutput("CHAIN, buffer " + buffer, x, Checks.part(13, want[2], 14, want[1], 15, want[0]));
        }
    }

    private static void partOfAKey() {
        CHECKS.sentence("A job writes its results into P parts, 0 to P-1; the key q belongs to part q mod P");
        for (int parts = 1; parts <= 4; parts++) {
            for (int key = 0; key < 16; key++) {
                MapReduceRun x = new MapReduceRun(parts, 2);
                x.addRecord(3 - key % 4, key, 100 + key);
                x.run(MapReduceRun.ADDED);
                int[][] want = new int[parts][0];
                want[key % parts] = Checks.part(key, 100 + key);
                CHECKS.dueOutput("key " + key + " with " + parts + " parts", x, want);
            }
        }
    }

    private static void fewerKeysThanParts() {
        CHECKS.sentence("the key q belongs to part q mod P");
        MapReduceRun x = new MapReduceRun(4, 2);
        x.addRecord(0, 7, 1);
        x.addRecord(3, -2, 2);
        x.mapping(1, 1, 0);
        CHECKS.due("run with modulus 1", x.run(MapReduceRun.ADDED), 1);
        CHECKS.dueOutput("modulus 1", x, Checks.part(0, 3), Checks.part(), Checks.part(), Checks.part());
        x.mapping(3, 1, 0);
        CHECKS.due("run with modulus 3", x.run(MapReduceRun.ADDED), 1);
        CHECKS.dueOutput("modulus 3", x, Checks.part(), Checks.part(1, 3), Checks.part(), Checks.part());
    }

    private static void orderedByKey() {
        CHECKS.sentence("Within a part results are ordered by key, the smallest first");
        for (int parts = 1; parts <= 4; parts++) {
            MapReduceRun x = new MapReduceRun(parts, 5);
            for (int key = 15; key >= 0; key--) {
                x.addRecord(key % 4, key, 100 + key);
            }
            CHECKS.due("run with " + parts + " parts", x.run(MapReduceRun.ADDED), 16);
            int[][] want = new int[parts][];
            for (int part = 0; part < parts; part++) {
                want[part] = new int[2 * ((15 - part) / parts + 1)];
                for (int i = 0; i < want[part].length / 2; i++) {
                    want[part][2 * i] = part + i * parts;
                    want[part][2 * i + 1] = 100 + part + i * parts;
                }
            }
            CHECKS.dueOutput(parts + " parts", x, want);
        }
    }
}
