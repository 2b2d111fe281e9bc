/**
 * A stable external sort on simulated one-way tapes: runs are formed by
 * replacement selection, spread over the tapes with dummy runs, and merged
 * phase by phase.
 *
 * A record is known everywhere by its origin. A run is a chain of records,
 * known by the origin of its first one; a dummy run is NONE.
 */
public final class PolyphaseSort {
    public static final int OK = 0;
    public static final int WRONG = 1;
    public static final int FULL = 2;
    public static final int END = 3;
    public static final int PHASE = 4;
    public static final int DONE = 5;

    public static final int NONE = -1;

    public static final int KEY = 0;
    public static final int VALUE = 1;
    public static final int RUN = 2;
    public static final int ORIGIN = 3;

    private static final int STAGE_FEED = 0;
    private static final int STAGE_MERGE = 1;
    private static final int STAGE_SORTED = 2;

    private static final int LEAST_TAPES = 3;
    private static final int MOST_TAPES = 4;
    private static final int LEAST_WORKSPACE = 2;
    private static final int MOST_WORKSPACE = 8;
    private static final int LEAST_CAPACITY = 8;
    private static final int MOST_RECORDS = 64;

    // At most 32 runs ever arise: every run but the last has at least two records.
    private static final int MOST_LEVEL = 7;

    // No tape ever holds more than 24 runs, the first number of level 6 on four tapes.
    private static final int TAPE_SLOTS = 32;
    private static final int ALL_SLOTS = 128;

    private final int tapeTotal;
    private final int workspaceSize;
    private final int recordLimit;

    private int stage;
    private int recordCount;
    private int greatestRun;

    private final int[] keys = new int[MOST_RECORDS];
    private final int[] values = new int[MOST_RECORDS];
    private final int[] runNumbers = new int[MOST_RECORDS];
    private final int[] nextInRun = new int[MOST_RECORDS];

    private final int[] workspace = new int[MOST_WORKSPACE];
    private int held;

    // The first record of run number r stands at r - 1.
    private final int[] firstOfRun = new int[MOST_RECORDS];
    private int lastWritten;

    private int levelNow;
    private int outputNow;
    private final int[] perfectRow = new int[MOST_TAPES];

    // Each tape is a queue of runs in its own stretch of TAPE_SLOTS slots, used in a circle.
    private final int[] runSlots = new int[ALL_SLOTS];
    private final int[] firstSlot = new int[MOST_TAPES];
    private final int[] runCounts = new int[MOST_TAPES];

    private final int[] mergeHeads = new int[MOST_TAPES];

    private int unread;
    private int currentRecord;

    public PolyphaseSort(int tapes, int workspace, int capacity) {
        tapeTotal = clamp(tapes, LEAST_TAPES, MOST_TAPES);
        workspaceSize = clamp(workspace, LEAST_WORKSPACE, MOST_WORKSPACE);
        recordLimit = clamp(capacity, LEAST_CAPACITY, MOST_RECORDS);
        startAfresh();
    }

    public int put(int key, int value) {
        if (stage != STAGE_FEED) {
            return WRONG;
        }
        if (recordCount >= recordLimit) {
            return FULL;
        }
        int origin = recordCount;
        keys[origin] = key;
        values[origin] = value;
        recordCount++;
        if (held < workspaceSize) {
            runNumbers[origin] = 1;
            workspace[held] = origin;
            held++;
        } else {
            replaceFront(origin);
        }
        if (runNumbers[origin] > greatestRun) {
            greatestRun = runNumbers[origin];
        }
        return OK;
    }

    public int finish() {
        if (stage != STAGE_FEED) {
            return WRONG;
        }
        emptyWorkspace();
        chooseLevel();
        distributeRuns();
        if (levelNow == 0) {
            outputNow = 0;
            enterSorted();
            return DONE;
        }
        outputNow = tapeTotal - 1;
        stage = STAGE_MERGE;
        return OK;
    }

    public int mergeOne() {
        if (stage != STAGE_MERGE) {
            return WRONG;
        }
        mergeFirstRuns();
        int shortest = (outputNow + tapeTotal - 1) % tapeTotal;
        if (runCounts[shortest] > 0) {
            return OK;
        }
        levelNow--;
        if (levelNow == 0) {
            enterSorted();
            return DONE;
        }
        outputNow = shortest;
        return PHASE;
    }

    public int mergePhase() {
        int answer = mergeOne();
        for (int i = 0; i < TAPE_SLOTS && answer == OK; i++) {
            answer = mergeOne();
        }
        return answer;
    }

    public int read() {
        if (stage != STAGE_SORTED) {
            return WRONG;
        }
        if (unread == NONE) {
            return END;
        }
        currentRecord = unread;
        unread = nextInRun[currentRecord];
        return OK;
    }

    public int readFrom(int key) {
        int answer = read();
        for (int i = 0; i < MOST_RECORDS && answer == OK && keys[currentRecord] < key; i++) {
            answer = read();
        }
        return answer;
    }

    public int rewind() {
        if (stage != STAGE_SORTED) {
            return WRONG;
        }
        goToStart();
        return OK;
    }

    public void clear() {
        startAfresh();
    }

    public int count() {
        return recordCount;
    }

    public int field(int origin, int what) {
        if (what < KEY || what > ORIGIN) {
            return NONE;
        }
        if (origin < 0 || origin >= recordCount) {
            return what == ORIGIN ? NONE : 0;
        }
        switch (what) {
            case KEY:
                return keys[origin];
            case VALUE:
                return values[origin];
            case RUN:
                return runNumbers[origin];
            default:
                return origin;
        }
    }

    public int front() {
        if (held == 0) {
            return NONE;
        }
        int cell = frontCell();
        return workspace[cell];
    }

    public int runs() {
        return greatestRun;
    }

    public int level() {
        return levelNow;
    }

    public int runsOn(int tape) {
        if (stage == STAGE_FEED || tape < 0 || tape >= tapeTotal) {
            return NONE;
        }
        return runCounts[tape];
    }

    public int outputTape() {
        return outputNow;
    }

    public int current(int what) {
        // Without a current record this asks for origin NONE, which field() answers as is due.
        return field(currentRecord, what);
    }

    private static int clamp(int number, int least, int most) {
        if (number < least) {
            return least;
        }
        return number > most ? most : number;
    }

    // What the arrays still hold is out of reach once the counts are 0.
    private void startAfresh() {
        stage = STAGE_FEED;
        recordCount = 0;
        greatestRun = 0;
        held = 0;
        lastWritten = NONE;
        levelNow = NONE;
        outputNow = NONE;
        unread = NONE;
        currentRecord = NONE;
    }

    private void replaceFront(int origin) {
        int cell = frontCell();
        int leaving = workspace[cell];
        // A smaller key would come too late for the run that is being written.
        boolean fits = keys[origin] >= keys[leaving];
        runNumbers[origin] = fits ? runNumbers[leaving] : runNumbers[leaving] + 1;
        writeOut(leaving);
        workspace[cell] = origin;
    }

    private int frontCell() {
        int best = 0;
        for (int cell = 1; cell < held; cell++) {
            if (leavesBefore(workspace[cell], workspace[best])) {
                best = cell;
            }
        }
        return best;
    }

    private boolean leavesBefore(int a, int b) {
        if (runNumbers[a] != runNumbers[b]) {
            return runNumbers[a] < runNumbers[b];
        }
        return sortsBefore(a, b);
    }

    private boolean sortsBefore(int a, int b) {
        if (keys[a] != keys[b]) {
            return keys[a] < keys[b];
        }
        return a < b;
    }

    // Records leave in ascending order of run number, so only the last run is ever extended.
    private void writeOut(int origin) {
        int run = runNumbers[origin];
        if (lastWritten != NONE && runNumbers[lastWritten] == run) {
            nextInRun[lastWritten] = origin;
        } else {
            firstOfRun[run - 1] = origin;
        }
        nextInRun[origin] = NONE;
        lastWritten = origin;
    }

    private void emptyWorkspace() {
        for (int i = 0; i < MOST_WORKSPACE && held > 0; i++) {
            int cell = frontCell();
            writeOut(workspace[cell]);
            held--;
            workspace[cell] = workspace[held];
        }
    }

    private void chooseLevel() {
        perfectRow[0] = 1;
        for (int j = 1; j < MOST_TAPES; j++) {
            perfectRow[j] = 0;
        }
        levelNow = 0;
        int total = 1;
        for (int i = 0; i < MOST_LEVEL && total < greatestRun; i++) {
            raisePerfectRow();
            levelNow++;
            total = perfectTotal();
        }
    }

    // The place of tape T-1 stays 0, which is what a(T) counts as.
    private void raisePerfectRow() {
        int first = perfectRow[0];
        for (int j = 0; j < tapeTotal - 1; j++) {
            perfectRow[j] = first + perfectRow[j + 1];
        }
    }

    private int perfectTotal() {
        int total = 0;
        for (int j = 0; j < tapeTotal - 1; j++) {
            total += perfectRow[j];
        }
        return total;
    }

    // The dummy runs go first, so that many of them merge with one another and move no record.
    private void distributeRuns() {
        emptyTapes();
        int dummies = perfectTotal() - greatestRun;
        int written = 0;
        for (int round = 0; round < TAPE_SLOTS; round++) {
            for (int tape = 0; tape < tapeTotal - 1; tape++) {
                if (round >= perfectRow[tape]) {
                    continue;
                }
                if (dummies > 0) {
                    appendRun(tape, NONE);
                    dummies--;
                } else {
                    appendRun(tape, firstOfRun[written]);
                    written++;
                }
            }
        }
    }

    private void emptyTapes() {
        for (int tape = 0; tape < MOST_TAPES; tape++) {
            firstSlot[tape] = 0;
            runCounts[tape] = 0;
        }
    }

    private void appendRun(int tape, int run) {
        int slot = (firstSlot[tape] + runCounts[tape]) % TAPE_SLOTS;
        runSlots[tape * TAPE_SLOTS + slot] = run;
        runCounts[tape]++;
    }

    private int firstRunOn(int tape) {
        return runSlots[tape * TAPE_SLOTS + firstSlot[tape]];
    }

    private int takeRun(int tape) {
        int run = firstRunOn(tape);
        firstSlot[tape] = (firstSlot[tape] + 1) % TAPE_SLOTS;
        runCounts[tape]--;
        return run;
    }

    private void mergeFirstRuns() {
        for (int tape = 0; tape < tapeTotal; tape++) {
            mergeHeads[tape] = tape == outputNow ? NONE : takeRun(tape);
        }
        int merged = mergeChains();
        appendRun(outputNow, merged);
    }

    // The record taken last ends its own chain, so the merged chain needs no end of its own.
    private int mergeChains() {
        int first = NONE;
        int last = NONE;
        for (int i = 0; i < MOST_RECORDS; i++) {
            int tape = tapeOfLeastHead();
            if (tape == NONE) {
                break;
            }
            int record = mergeHeads[tape];
            mergeHeads[tape] = nextInRun[record];
            if (last == NONE) {
                first = record;
            } else {
                nextInRun[last] = record;
            }
            last = record;
        }
        return first;
    }

    private int tapeOfLeastHead() {
        int best = NONE;
        for (int tape = 0; tape < tapeTotal; tape++) {
            if (mergeHeads[tape] == NONE) {
                continue;
            }
            if (best == NONE || sortsBefore(mergeHeads[tape], mergeHeads[best])) {
                best = tape;
            }
        }
        return best;
    }

    private void enterSorted() {
        stage = STAGE_SORTED;
        goToStart();
    }

    private void goToStart() {
        unread = firstRunOn(outputNow);
        currentRecord = NONE;
    }
}
