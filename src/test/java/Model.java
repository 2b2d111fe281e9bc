import java.util.ArrayList;
import java.util.Arrays;
import java.util.Comparator;
import java.util.List;

/**
 * The document said over again with lists and library sorting, and with the perfect distributions
 * written out, so that it shares no method with the class under test.
 */
final class Model {
    private static final int[][] LEVELS_3 = {
        {1, 0}, {1, 1}, {2, 1}, {3, 2}, {5, 3}, {8, 5}, {13, 8}, {21, 13}};
    private static final int[][] LEVELS_4 = {
        {1, 0, 0}, {1, 1, 1}, {2, 2, 1}, {4, 3, 2}, {7, 6, 4}, {13, 11, 7}, {24, 20, 13}};

    /** A record as {key, value, run, origin}, the order of the field constants. */
    private final List<int[]> records = new ArrayList<>();
    private final List<int[]> workspace = new ArrayList<>();
    private final List<int[]> result = new ArrayList<>();
    private final int tapes;
    private final int cells;
    private final int capacity;
    private char stage = 'F';
    private int level = -1;
    private int output = -1;
    private int[] runsOn = new int[0];
    private int readSoFar = 0;

    private static final Comparator<int[]> RESULT_ORDER =
            Comparator.<int[]>comparingInt(r -> r[0]).thenComparingInt(r -> r[3]);
    private static final Comparator<int[]> FRONT_ORDER =
            Comparator.<int[]>comparingInt(r -> r[2]).thenComparing(RESULT_ORDER);

    Model(int tapes, int cells, int capacity) {
        this.tapes = Math.max(3, Math.min(4, tapes));
        this.cells = Math.max(2, Math.min(8, cells));
        this.capacity = Math.max(8, Math.min(64, capacity));
    }

    int put(int key, int value) {
        if (stage != 'F') {
            return 1;
        }
        if (records.size() == capacity) {
            return 2;
        }
        int run = 1;
        if (workspace.size() == cells) {
            int[] s = workspace.stream().min(FRONT_ORDER).get();
            workspace.remove(s);
            run = key >= s[0] ? s[2] : s[2] + 1;
        }
        int[] record = {key, value, run, records.size()};
        records.add(record);
        workspace.add(record);
        return 0;
    }

    int finish() {
        if (stage != 'F') {
            return 1;
        }
        workspace.clear();
        int[][] levels = tapes == 3 ? LEVELS_3 : LEVELS_4;
        level = 0;
        while (Arrays.stream(levels[level]).sum() < runs()) {
            level++;
        }
        runsOn = Arrays.copyOf(levels[level], tapes);
        output = level == 0 ? 0 : tapes - 1;
        if (level == 0) {
            becomeSorted();
            return 5;
        }
        stage = 'M';
        return 0;
    }

    private void becomeSorted() {
        stage = 'S';
        result.addAll(records);
        result.sort(RESULT_ORDER);
    }

    int mergeOne() {
        if (stage != 'M') {
            return 1;
        }
        for (int t = 0; t < tapes; t++) {
            runsOn[t] += t == output ? 1 : -1;
        }
        int before = output == 0 ? tapes - 1 : output - 1;
        if (runsOn[before] != 0) {
            return 0;
        }
        level--;
        if (level == 0) {
            becomeSorted();
            return 5;
        }
        output = before;
        return 4;
    }

    int mergePhase() {
        int answer;
        do {
            answer = mergeOne();
        } while (answer == 0);
        return answer;
    }

    int read() {
        if (stage != 'S') {
            return 1;
        }
        if (readSoFar == result.size()) {
            return 3;
        }
        readSoFar++;
        return 0;
    }

    int readFrom(int key) {
        int answer;
        do {
            answer = read();
        } while (answer == 0 && current(0) < key);
        return answer;
    }

    int rewind() {
        if (stage != 'S') {
            return 1;
        }
        readSoFar = 0;
        return 0;
    }

    void clear() {
        records.clear();
        workspace.clear();
        result.clear();
        stage = 'F';
        level = -1;
        output = -1;
        runsOn = new int[0];
        readSoFar = 0;
    }

    int count() {
        return records.size();
    }

    int field(int origin, int what) {
        boolean there = origin >= 0 && origin < records.size();
        return fieldOf(there ? records.get(origin) : null, what);
    }

    int front() {
        return workspace.stream().min(FRONT_ORDER).map(r -> r[3]).orElse(-1);
    }

    int runs() {
        return records.stream().mapToInt(r -> r[2]).max().orElse(0);
    }

    int level() {
        return level;
    }

    int runsOn(int tape) {
        return tape >= 0 && tape < runsOn.length ? runsOn[tape] : -1;
    }

    int outputTape() {
        return output;
    }

    int current(int what) {
        return fieldOf(readSoFar == 0 ? null : result.get(readSoFar - 1), what);
    }

    private static int fieldOf(int[] record, int what) {
        if (what < 0 || what > 3) {
            return -1;
        }
        if (record == null) {
            return what == 3 ? -1 : 0;
        }
        return record[what];
    }
}
