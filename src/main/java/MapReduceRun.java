/** A runner for jobs that map records, group them by key and reduce each group. */
public final class MapReduceRun {
    public static final int ADDED = 0;
    public static final int LARGEST = 1;
    public static final int SMALLEST = 2;
    public static final int TALLY = 3;
    public static final int CHAIN = 4;
    public static final int BAD = -1;
    public static final int FULL = -2;
    public static final int GIVEN_UP = -3;

    private static final int LEAST_INT = -2147483648;
    private static final int GREATEST_INT = 2147483647;
    private static final int SPLITS = 4;
    private static final int SPLIT_ROOM = 16;
    private static final int RECORD_ROOM = SPLITS * SPLIT_ROOM;
    private static final int MOST_PARTS = 4;
    // With one part and the greatest modulus a part holds every key.
    private static final int PART_ROOM = 16;
    private static final int RESULT_ROOM = MOST_PARTS * PART_ROOM;
    private static final int LEAST_BUFFER = 2;
    private static final int MOST_BUFFER = 8;
    private static final int MOST_MODULUS = 16;
    private static final int MOST_FAILURES_OF_TASK = 3;
    private static final int MOST_FAILURES_OF_JOB = 6;
    private static final int CHAIN_START = 7;
    private static final int CHAIN_FACTOR = 31;

    private final int parts;
    private final int buffer;

    // The records of split s stand from s * SPLIT_ROOM on.
    private final int[] recordKeys = new int[RECORD_ROOM];
    private final int[] recordValues = new int[RECORD_ROOM];
    private final int[] recordCounts = new int[SPLITS];

    private int modulus = MOST_MODULUS;
    private int factor = 1;
    private int offset = 0;
    private int lowBound = LEAST_INT;
    private int highBound = GREATEST_INT;

    private final int[] mapFailures = new int[SPLITS];
    private final int[] reduceFailures = new int[MOST_PARTS];

    // The pairs of the latest job, split by split, in runs that are each sorted by key.
    private final int[] pairKeys = new int[RECORD_ROOM];
    private final int[] pairValues = new int[RECORD_ROOM];
    private int pairCount = 0;
    // A run is never empty, so there are never more runs than pairs.
    private final int[] runStarts = new int[RECORD_ROOM];
    private final int[] runEnds = new int[RECORD_ROOM];
    private final int[] runCursors = new int[RECORD_ROOM];
    private int runCount = 0;

    private int groupSize = 0;
    private int groupResult = 0;

    // The results of part p stand from p * PART_ROOM on.
    private final int[] resultKeys = new int[RESULT_ROOM];
    private final int[] resultValues = new int[RESULT_ROOM];
    private final int[] resultCounts = new int[MOST_PARTS];

    public MapReduceRun(int parts, int buffer) {
        this.parts = clamp(parts, 1, MOST_PARTS);
        this.buffer = clamp(buffer, LEAST_BUFFER, MOST_BUFFER);
    }

    public int addRecord(int split, int key, int value) {
        if (!isSplit(split)) {
            return BAD;
        }
        if (recordCounts[split] >= SPLIT_ROOM) {
            return FULL;
        }
        appendRecord(split, key, value);
        return recordCounts[split];
    }

    public boolean mapping(int modulus, int factor, int offset) {
        if (modulus < 1 || modulus > MOST_MODULUS) {
            return false;
        }
        this.modulus = modulus;
        this.factor = factor;
        this.offset = offset;
        return true;
    }

    public void bounds(int low, int high) {
        lowBound = low;
        highBound = high;
    }

    public boolean failures(boolean reduce, int i, int times) {
        if (times < 0 || times > MOST_FAILURES_OF_TASK) {
            return false;
        }
        return reduce ? setReduceFailures(i, times) : setMapFailures(i, times);
    }

    public int run(int reducer) {
        if (reducer < ADDED || reducer > CHAIN) {
            return BAD;
        }
        int failed = useUpFailures();
        // A job that is given up is mapped too, since mapped() tells its number of pairs.
        mapInput();
        clearOutput();
        if (failed > MOST_FAILURES_OF_JOB) {
            return GIVEN_UP;
        }
        return reducePairs(reducer);
    }

    public int results(int part) {
        return isPart(part) ? resultCounts[part] : BAD;
    }

    public int keyAt(int part, int i) {
        return isResult(part, i) ? resultKeys[part * PART_ROOM + i] : BAD;
    }

    public int valueAt(int part, int i) {
        return isResult(part, i) ? resultValues[part * PART_ROOM + i] : 0;
    }

    public int mapped() {
        return pairCount;
    }

    public int feedBack() {
        clearInput();
        int records = 0;
        for (int part = 0; part < parts; part++) {
            for (int i = 0; i < resultCounts[part]; i++) {
                int at = part * PART_ROOM + i;
                appendRecord(part, resultKeys[at], resultValues[at]);
            }
            records += recordCounts[part];
        }
        return records;
    }

    public int emptySplit(int split) {
        if (!isSplit(split)) {
            return BAD;
        }
        int had = recordCounts[split];
        recordCounts[split] = 0;
        return had;
    }

    private static int clamp(int number, int least, int greatest) {
        if (number < least) {
            return least;
        }
        return number > greatest ? greatest : number;
    }

    private boolean isSplit(int split) {
        return split >= 0 && split < SPLITS;
    }

    private boolean isPart(int part) {
        return part >= 0 && part < parts;
    }

    private boolean isResult(int part, int i) {
        return isPart(part) && i >= 0 && i < resultCounts[part];
    }

    private void appendRecord(int split, int key, int value) {
        int at = split * SPLIT_ROOM + recordCounts[split];
        recordKeys[at] = key;
        recordValues[at] = value;
        recordCounts[split]++;
    }

    private void clearInput() {
        for (int split = 0; split < SPLITS; split++) {
            recordCounts[split] = 0;
        }
    }

    private void clearOutput() {
        for (int part = 0; part < MOST_PARTS; part++) {
            resultCounts[part] = 0;
        }
    }

    private boolean setMapFailures(int split, int times) {
        if (!isSplit(split)) {
            return false;
        }
        mapFailures[split] = times;
        return true;
    }

    private boolean setReduceFailures(int part, int times) {
        if (!isPart(part)) {
            return false;
        }
        reduceFailures[part] = times;
        return true;
    }

    // A failed try leaves no trace, so failures are only counted and each task's last try is all that is carried out.
    private int useUpFailures() {
        int failed = 0;
        for (int split = 0; split < SPLITS; split++) {
            failed += mapFailures[split];
            mapFailures[split] = 0;
        }
        for (int part = 0; part < parts; part++) {
            failed += reduceFailures[part];
            reduceFailures[part] = 0;
        }
        return failed;
    }

    private void mapInput() {
        pairCount = 0;
        runCount = 0;
        for (int split = 0; split < SPLITS; split++) {
            mapSplit(split);
        }
    }

    private void mapSplit(int split) {
        int runStart = pairCount;
        for (int i = 0; i < recordCounts[split]; i++) {
            mapRecord(split * SPLIT_ROOM + i);
            if (pairCount - runStart == buffer) {
                closeRun(runStart);
                runStart = pairCount;
            }
        }
        if (pairCount > runStart) {
            closeRun(runStart);
        }
    }

    private void mapRecord(int record) {
        int value = recordValues[record];
        if (value < lowBound || value > highBound) {
            return;
        }
        pairKeys[pairCount] = pairKeyOf(recordKeys[record]);
        pairValues[pairCount] = factor * value + offset;
        pairCount++;
    }

    private int pairKeyOf(int key) {
        int rest = key % modulus;
        return rest < 0 ? rest + modulus : rest;
    }

    private void closeRun(int start) {
        sortPairs(start, pairCount);
        runStarts[runCount] = start;
        runEnds[runCount] = pairCount;
        runCount++;
    }

    // The sort keeps pairs of one key in their order, since CHAIN depends on it.
    private void sortPairs(int start, int end) {
        for (int next = start + 1; next < end; next++) {
            int key = pairKeys[next];
            int value = pairValues[next];
            int at = next;
            for (; at > start && pairKeys[at - 1] > key; at--) {
                pairKeys[at] = pairKeys[at - 1];
                pairValues[at] = pairValues[at - 1];
            }
            pairKeys[at] = key;
            pairValues[at] = value;
        }
    }

    private int reducePairs(int reducer) {
        int written = 0;
        for (int part = 0; part < parts; part++) {
            reducePart(part, reducer);
            written += resultCounts[part];
        }
        return written;
    }

    private void reducePart(int part, int reducer) {
        rewindRuns();
        for (int key = 0; key < modulus; key++) {
            if (key % parts == part) {
                reduceKey(part, key, reducer);
            }
        }
    }

    private void rewindRuns() {
        for (int run = 0; run < runCount; run++) {
            runCursors[run] = runStarts[run];
        }
    }

    // The runs are taken in the order of their making, which keeps a group's values in the order of the records.
    private void reduceKey(int part, int key, int reducer) {
        groupSize = 0;
        groupResult = startOf(reducer);
        for (int run = 0; run < runCount; run++) {
            takeFromRun(run, key, reducer);
        }
        if (groupSize > 0) {
            appendResult(part, key, groupResult);
        }
    }

    // A run is sorted and a part's keys are asked for in rising order, so a pair that is passed is not needed again.
    private void takeFromRun(int run, int key, int reducer) {
        int at = runCursors[run];
        for (; at < runEnds[run] && pairKeys[at] <= key; at++) {
            if (pairKeys[at] == key) {
                groupResult = step(reducer, groupResult, pairValues[at]);
                groupSize++;
            }
        }
        runCursors[run] = at;
    }

    private static int startOf(int reducer) {
        switch (reducer) {
            case LARGEST:
                return LEAST_INT;
            case SMALLEST:
                return GREATEST_INT;
            case CHAIN:
                return CHAIN_START;
            default:
                return 0;
        }
    }

    private static int step(int reducer, int soFar, int value) {
        switch (reducer) {
            case ADDED:
                return soFar + value;
            case LARGEST:
                return value > soFar ? value : soFar;
            case SMALLEST:
                return value < soFar ? value : soFar;
            case TALLY:
                return soFar + 1;
            default:
                return CHAIN_FACTOR * soFar + value;
        }
    }

    private void appendResult(int part, int key, int value) {
        int at = part * PART_ROOM + resultCounts[part];
        resultKeys[at] = key;
        resultValues[at] = value;
        resultCounts[part]++;
    }
}
