import java.util.ArrayList;
import java.util.List;
import java.util.Map;
import java.util.TreeMap;

/** The document's words in plain collections, without a sort or runs, for ModelTest to compare with. */
final class Model {
    private final int parts;
    private final List<List<int[]>> splits = lists();
    private List<List<int[]>> output = lists();
    private final int[][] failures = new int[2][4];
    private int modulus = 16;
    private int factor = 1;
    private int offset = 0;
    private int low = Integer.MIN_VALUE;
    private int high = Integer.MAX_VALUE;
    private int mapped = 0;

    Model(int parts) {
        this.parts = Math.max(1, Math.min(4, parts));
    }

    private static List<List<int[]>> lists() {
        List<List<int[]>> four = new ArrayList<>();
        for (int i = 0; i < 4; i++) {
            four.add(new ArrayList<>());
        }
        return four;
    }

    int addRecord(int split, int key, int value) {
        if (split < 0 || split > 3) {
            return -1;
        }
        if (splits.get(split).size() == 16) {
            return -2;
        }
        splits.get(split).add(new int[] {key, value});
        return splits.get(split).size();
    }

    boolean mapping(int m, int f, int g) {
        if (m < 1 || m > 16) {
            return false;
        }
        modulus = m;
        factor = f;
        offset = g;
        return true;
    }

    void bounds(int l, int u) {
        low = l;
        high = u;
    }

    boolean failures(boolean reduce, int i, int times) {
        if (i < 0 || i >= (reduce ? parts : 4) || times < 0 || times > 3) {
            return false;
        }
        failures[reduce ? 1 : 0][i] = times;
        return true;
    }

    int run(int reducer) {
        if (reducer < 0 || reducer > 4) {
            return -1;
        }
        Map<Integer, List<Integer>> groups = new TreeMap<>();
        mapped = 0;
        for (List<int[]> split : splits) {
            for (int[] r : split) {
                if (r[1] >= low && r[1] <= high) {
                    groups.computeIfAbsent(Math.floorMod(r[0], modulus), k -> new ArrayList<>()).add(factor * r[1] + offset);
                    mapped++;
                }
            }
        }
        int failed = 0;
        for (int[] kind : failures) {
            for (int i = 0; i < 4; i++) {
                failed += kind[i];
                kind[i] = 0;
            }
        }
        output = lists();
        if (failed > 6) {
            return -3;
        }
        for (Map.Entry<Integer, List<Integer>> g : groups.entrySet()) {
            output.get(g.getKey() % parts).add(new int[] {g.getKey(), reduced(reducer, g.getValue())});
        }
        return groups.size();
    }

    private static int reduced(int reducer, List<Integer> values) {
        switch (reducer) {
            case 0:
                return values.stream().mapToInt(v -> v).sum();
            case 1:
                return values.stream().mapToInt(v -> v).max().getAsInt();
            case 2:
                return values.stream().mapToInt(v -> v).min().getAsInt();
            case 3:
                return values.size();
            default:
                int h = 7;
                for (int w : values) {
                    h = 31 * h + w;
                }
                return h;
        }
    }

    int results(int part) {
        return part < 0 || part >= parts ? -1 : output.get(part).size();
    }

    int keyAt(int part, int i) {
        return i < 0 || i >= results(part) ? -1 : output.get(part).get(i)[0];
    }

    int valueAt(int part, int i) {
        return i < 0 || i >= results(part) ? 0 : output.get(part).get(i)[1];
    }

    int mapped() {
        return mapped;
    }

    int feedBack() {
        int records = 0;
        for (int i = 0; i < 4; i++) {
            splits.get(i).clear();
            splits.get(i).addAll(output.get(i));
            records += output.get(i).size();
        }
        return records;
    }

    int emptySplit(int split) {
        if (split < 0 || split > 3) {
            return -1;
        }
        int had = splits.get(split).size();
        splits.get(split).clear();
        return had;
    }
}
