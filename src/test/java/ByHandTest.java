/** Each promise of the document in turn, with answers worked out by hand. */
public final class ByHandTest {
    private static final int OK = 0;
    private static final int WRONG = 1;
    private static final int FULL = 2;
    private static final int END = 3;
    private static final int PHASE = 4;
    private static final int DONE = 5;
    private static final int NONE = -1;
    private static final int MIN = Integer.MIN_VALUE;
    private static final int MAX = Integer.MAX_VALUE;
    private static final int[] ODD_INTS = {MIN, MIN + 1, -2, -1, 4, 5, 64, 65, 1 << 30, MAX};

    private static final Due due = new Due();

    public static void main(String[] args) {
        construction();
        freshObject();
        putStages();
        putRunNumbers();
        putTies();
        putExtremes();
        finishLevels();
        finishLeavesRecords();
        mergeOneThreeTapes();
        mergeOneFourTapes();
        mergePhases();
        reading();
        readingIsStable();
        readingFrom();
        readingFromExtremes();
        rewinding();
        clearing();
        counting();
        fields();
        fronts();
        runsAndLevels();
        runsOnTapes();
        outputTapes();
        currents();
        gettersChangeNothing();
        due.end();
    }

    // Promise 1

    private static void construction() {
        checkSizes(MIN, MIN, MIN, 3, 2, 8);
        checkSizes(2, 1, 7, 3, 2, 8);
        checkSizes(3, 2, 8, 3, 2, 8);
        checkSizes(0, 5, 20, 3, 5, 20);
        checkSizes(4, -1, 20, 4, 2, 20);
        checkSizes(4, 5, 0, 4, 5, 8);
        checkSizes(4, 8, 64, 4, 8, 64);
        checkSizes(5, 9, 65, 4, 8, 64);
        checkSizes(MAX, 3, 9, 4, 3, 9);
        checkSizes(3, MAX, 9, 3, 8, 9);
        checkSizes(3, 3, MAX, 3, 3, 64);
        checkSizes(MAX, MAX, MAX, 4, 8, 64);
        checkSizes(3, 7, 63, 3, 7, 63);
    }

    /** Finds T, W and the capacity out of an object's answers. */
    private static void checkSizes(int t, int w, int c, int tapes, int cells, int capacity) {
        String name = "new (" + t + ", " + w + ", " + c + ") ";
        PolyphaseSort x = new PolyphaseSort(t, w, c);
        checkFresh(name, x);
        for (int round = 0; round < 2; round++) {
            int accepted = 0;
            while (accepted < 100 && x.put(-accepted, 0) == OK) {
                accepted++;
            }
            due.is(name + "capacity", accepted, capacity);
            // With falling keys the first run takes just the records that find an empty cell.
            due.is(name + "last of run 1", x.field(cells - 1, 2), 1);
            if (cells < capacity) {
                due.is(name + "first of run 2", x.field(cells, 2), 2);
            }
            x.finish();
            due.is(name + "last tape", x.runsOn(tapes - 1) == NONE ? 1 : 0, 0);
            due.is(name + "beyond the last tape", x.runsOn(tapes), NONE);
            x.clear();
        }
    }

    private static void freshObject() {
        checkFresh("fresh ", new PolyphaseSort(3, 2, 8));
        checkFresh("fresh ", new PolyphaseSort(4, 8, 64));
    }

    private static void checkFresh(String name, PolyphaseSort x) {
        due.is(name + "count()", x.count(), 0);
        due.is(name + "runs()", x.runs(), 0);
        due.is(name + "front()", x.front(), NONE);
        due.is(name + "level()", x.level(), NONE);
        due.is(name + "outputTape()", x.outputTape(), NONE);
        for (int tape = 0; tape < 4; tape++) {
            due.is(name + "runsOn(" + tape + ")", x.runsOn(tape), NONE);
        }
        for (int odd : ODD_INTS) {
            due.is(name + "runsOn(" + odd + ")", x.runsOn(odd), NONE);
            due.is(name + "current(" + odd + ")", x.current(odd), NONE);
            due.is(name + "field(" + odd + ", 3)", x.field(odd, 3), NONE);
        }
        checkNoCurrent(name, x);
        due.is(name + "mergeOne()", x.mergeOne(), WRONG);
        due.is(name + "mergePhase()", x.mergePhase(), WRONG);
        due.is(name + "read()", x.read(), WRONG);
        due.is(name + "readFrom()", x.readFrom(MIN), WRONG);
        due.is(name + "rewind()", x.rewind(), WRONG);
        due.is(name + "level() after them", x.level(), NONE);
    }

    private static void checkNoCurrent(String name, PolyphaseSort x) {
        due.is(name + "current(KEY)", x.current(0), 0);
        due.is(name + "current(VALUE)", x.current(1), 0);
        due.is(name + "current(RUN)", x.current(2), 0);
        due.is(name + "current(ORIGIN)", x.current(3), NONE);
    }

    // Promise 2

    private static void putStages() {
        PolyphaseSort x = fed(3, 2, 8, 5, 4, 3, 2, 1, 0, -1, -2);
        due.is("put beyond the capacity", x.put(9, 9), FULL);
        due.is("put again beyond it", x.put(MIN, 9), FULL);
        due.is("count() after FULL", x.count(), 8);
        due.is("runs() after FULL", x.runs(), 4);
        due.is("front() after FULL", x.front(), 7);
        due.is("field of the refused", x.field(8, 0), 0);
        x.finish();
        due.is("put in MERGE at capacity", x.put(1, 1), WRONG);
        mergeToEnd(x);
        due.is("put in SORTED at capacity", x.put(1, 1), WRONG);
        due.is("count() after WRONG", x.count(), 8);

        PolyphaseSort y = fed(3, 2, 8, 3, 2, 1);
        y.finish();
        due.is("put in MERGE", y.put(1, 1), WRONG);
        due.is("count() after that", y.count(), 3);
        mergeToEnd(y);
        due.is("put in SORTED", y.put(1, 1), WRONG);
        due.is("count() after that too", y.count(), 3);
    }

    private static void putRunNumbers() {
        // Cells: 5 3 -> 3 leaves for 4 (run 1) -> 4 leaves for 2 (run 2) -> 5 leaves for 5 (run 1)
        // -> that 5 leaves for 1 (run 2) -> 1 leaves for 9 (run 2) -> 2 leaves for 1 (run 3).
        PolyphaseSort x = fed(3, 2, 20, 5, 3, 4, 2, 5, 1, 9, 1);
        int[] want = {1, 1, 1, 2, 1, 2, 2, 3};
        for (int i = 0; i < want.length; i++) {
            due.is("run of record " + i, x.field(i, 2), want[i]);
        }
        due.is("front() then", x.front(), 6);
    }

    private static void putTies() {
        // Equal keys: the key does not fall below the front's, so all is one run, oldest first.
        PolyphaseSort x = new PolyphaseSort(4, 3, 64);
        for (int i = 0; i < 64; i++) {
            due.is("put of an equal key", x.put(7, -i), OK);
            due.is("front() of equal keys", x.front(), i < 3 ? 0 : i - 2);
            due.is("run of an equal key", x.field(i, 2), 1);
        }
        // A greater key of a lower run goes before a smaller key of a higher run.
        PolyphaseSort y = fed(3, 2, 8, 5, 9, 1);
        due.is("front() is of run 1", y.front(), 1);
    }

    private static void putExtremes() {
        PolyphaseSort x = fed(3, 2, 8, MAX, MAX, MIN, MIN, MAX);
        int[] want = {1, 1, 2, 2, 2};
        for (int i = 0; i < want.length; i++) {
            due.is("run of extreme record " + i, x.field(i, 2), want[i]);
        }
        PolyphaseSort y = fed(3, 2, 8, MIN, 0, MAX, MIN);
        due.is("run of MAX after MIN", y.field(2, 2), 1);
        due.is("run of MIN after 0", y.field(3, 2), 2);
        due.is("front of them", y.front(), 2);
        // A difference of keys would overflow here.
        PolyphaseSort z = fed(3, 2, 8, MAX, MIN);
        due.is("front of MAX and MIN", z.front(), 1);
    }

    // Promise 3

    private static final int[][] ROWS_3 = {
        {1, 0}, {1, 1}, {2, 1}, {3, 2}, {5, 3}, {8, 5}, {13, 8}, {21, 13}};
    private static final int[][] ROWS_4 = {
        {1, 0, 0}, {1, 1, 1}, {2, 2, 1}, {4, 3, 2}, {7, 6, 4}, {13, 11, 7}, {24, 20, 13}};

    private static void finishLevels() {
        int[] levels3 = {0, 0, 1, 2, 3, 3, 4, 4, 4, 5, 5, 5, 5, 5, 6, 6, 6, 6, 6, 6, 6, 6,
            7, 7, 7, 7, 7, 7, 7, 7, 7, 7, 7};
        int[] levels4 = {0, 0, 1, 1, 2, 2, 3, 3, 3, 3, 4, 4, 4, 4, 4, 4, 4, 4,
            5, 5, 5, 5, 5, 5, 5, 5, 5, 5, 5, 5, 5, 5, 6};
        for (int runs = 0; runs <= 32; runs++) {
            checkFinish(3, runs, levels3[runs], ROWS_3[levels3[runs]]);
            checkFinish(4, runs, levels4[runs], ROWS_4[levels4[runs]]);
        }
    }

    private static void checkFinish(int tapes, int runs, int level, int[] row) {
        String name = tapes + " tapes, " + runs + " runs: ";
        PolyphaseSort x = withRuns(tapes, runs);
        due.is(name + "runs()", x.runs(), runs);
        due.is(name + "finish()", x.finish(), level == 0 ? DONE : OK);
        due.is(name + "level()", x.level(), level);
        due.is(name + "outputTape()", x.outputTape(), level == 0 ? 0 : tapes - 1);
        for (int j = 0; j < tapes - 1; j++) {
            due.is(name + "runsOn(" + j + ")", x.runsOn(j), row[j]);
        }
        due.is(name + "the last tape", x.runsOn(tapes - 1), 0);
        due.is(name + "front()", x.front(), NONE);
        checkNoCurrent(name, x);
        due.is(name + "finish() again", x.finish(), WRONG);
        due.is(name + "level() then", x.level(), level);
        due.is(name + "runs() then", x.runs(), runs);
        due.is(name + "read()", x.read(), level != 0 ? WRONG : runs == 0 ? END : OK);
    }

    private static void finishLeavesRecords() {
        PolyphaseSort x = fed(4, 3, 16, 4, 8, 1, 9, 0, 3, 3);
        int[] before = allFields(x);
        x.finish();
        due.holds("finish() leaves the fields", same(before, allFields(x)));
        mergeToEnd(x);
        due.holds("merging leaves the fields", same(before, allFields(x)));
        x.readFrom(5);
        x.rewind();
        due.holds("reading leaves the fields", same(before, allFields(x)));
        due.is("finish() in SORTED", x.finish(), WRONG);
    }

    // Promise 4

    private static void mergeOneThreeTapes() {
        // Seven runs on three tapes: level 4, (5, 3), one dummy run.
        PolyphaseSort x = withRuns(3, 7);
        due.is("mergeOne() in FEED", x.mergeOne(), WRONG);
        x.finish();
        int[][] steps = {
            // answer, level, output tape, runs on tapes 0 to 2
            {OK, 4, 2, 4, 2, 1}, {OK, 4, 2, 3, 1, 2}, {PHASE, 3, 1, 2, 0, 3},
            {OK, 3, 1, 1, 1, 2}, {PHASE, 2, 0, 0, 2, 1},
            {PHASE, 1, 2, 1, 1, 0},
            {DONE, 0, 2, 0, 0, 1}, {WRONG, 0, 2, 0, 0, 1}};
        checkSteps("three tapes ", x, 3, steps);
        due.is("runs() after merging", x.runs(), 7);
        due.is("count() after merging", x.count(), 14);
    }

    private static void mergeOneFourTapes() {
        // Eight runs on four tapes: level 3, (4, 3, 2), one dummy run.
        PolyphaseSort x = withRuns(4, 8);
        x.finish();
        int[][] steps = {
            {OK, 3, 3, 3, 2, 1, 1}, {PHASE, 2, 2, 2, 1, 0, 2},
            {PHASE, 1, 1, 1, 0, 1, 1},
            {DONE, 0, 1, 0, 1, 0, 0}, {WRONG, 0, 1, 0, 1, 0, 0}};
        checkSteps("four tapes ", x, 4, steps);
        due.is("read() after DONE", x.read(), OK);
    }

    private static void checkSteps(String name, PolyphaseSort x, int tapes, int[][] steps) {
        for (int i = 0; i < steps.length; i++) {
            String at = name + "step " + i + ": ";
            due.is(at + "mergeOne()", x.mergeOne(), steps[i][0]);
            due.is(at + "level()", x.level(), steps[i][1]);
            due.is(at + "outputTape()", x.outputTape(), steps[i][2]);
            for (int t = 0; t < tapes; t++) {
                due.is(at + "runsOn(" + t + ")", x.runsOn(t), steps[i][3 + t]);
            }
            checkNoCurrent(at, x);
            if (x.level() > 0) {
                due.is(at + "read()", x.read(), WRONG);
                due.is(at + "readFrom()", x.readFrom(0), WRONG);
                due.is(at + "rewind()", x.rewind(), WRONG);
                due.is(at + "finish()", x.finish(), WRONG);
            }
        }
    }

    // Promise 5

    private static void mergePhases() {
        PolyphaseSort x = withRuns(3, 7);
        due.is("mergePhase() in FEED", x.mergePhase(), WRONG);
        x.finish();
        due.is("mergeOne() begins a phase", x.mergeOne(), OK);
        due.is("mergePhase() completes it", x.mergePhase(), PHASE);
        due.is("level() after it", x.level(), 3);
        due.is("runsOn(0) after it", x.runsOn(0), 2);
        due.is("runsOn(2) after it", x.runsOn(2), 3);
        due.is("a whole phase", x.mergePhase(), PHASE);
        due.is("level() after that", x.level(), 2);
        due.is("outputTape() after that", x.outputTape(), 0);
        due.is("a phase of one run", x.mergePhase(), PHASE);
        due.is("the last phase", x.mergePhase(), DONE);
        due.is("level() at last", x.level(), 0);
        due.is("outputTape() at last", x.outputTape(), 2);
        due.is("mergePhase() in SORTED", x.mergePhase(), WRONG);
        due.is("outputTape() still", x.outputTape(), 2);

        PolyphaseSort y = withRuns(4, 32);
        y.finish();
        for (int level = 6; level > 1; level--) {
            due.is("phase of level " + level, y.mergePhase(), PHASE);
        }
        due.is("phase of level 1", y.mergePhase(), DONE);
        due.is("read() after it", y.read(), OK);
        due.is("the first key", y.current(0), -63);
    }

    // Promise 6

    private static void reading() {
        PolyphaseSort x = fed(3, 2, 16, 5, MAX, 1, MIN, 3, 0, -1);
        due.is("read() in FEED", x.read(), WRONG);
        x.finish();
        due.is("read() in MERGE", x.read(), WRONG);
        mergeToEnd(x);
        int level = x.level();
        int output = x.outputTape();
        int[] keys = {MIN, -1, 0, 1, 3, 5, MAX};
        int[] origins = {3, 6, 5, 2, 4, 0, 1};
        for (int i = 0; i < keys.length; i++) {
            due.is("read() " + i, x.read(), OK);
            due.is("key read " + i, x.current(0), keys[i]);
            due.is("origin read " + i, x.current(3), origins[i]);
        }
        for (int i = 0; i < 3; i++) {
            due.is("read() at the end", x.read(), END);
            due.is("the last record stays", x.current(3), 1);
        }
        due.is("level() after reading", x.level(), level);
        due.is("outputTape() after reading", x.outputTape(), output);
        due.is("runsOn() after reading", x.runsOn(output), 1);
        due.is("count() after reading", x.count(), 7);

        PolyphaseSort none = new PolyphaseSort(4, 4, 8);
        none.finish();
        due.is("read() of nothing", none.read(), END);
        due.is("read() of nothing again", none.read(), END);
        checkNoCurrent("nothing ", none);
    }

    private static void readingIsStable() {
        for (int tapes = 3; tapes <= 4; tapes++) {
            PolyphaseSort x = new PolyphaseSort(tapes, 2, 64);
            for (int i = 0; i < 64; i++) {
                x.put(3 - i % 4, 1000 - i);
            }
            x.finish();
            mergeToEnd(x);
            for (int i = 0; i < 64; i++) {
                int key = i / 16;
                int origin = 3 - key + 4 * (i % 16);
                x.read();
                due.is("stable key " + i, x.current(0), key);
                due.is("stable origin " + i, x.current(3), origin);
                due.is("stable value " + i, x.current(1), 1000 - origin);
            }
            due.is("read() after all", x.read(), END);
        }
    }

    // Promise 7

    private static void readingFrom() {
        PolyphaseSort x = fed(3, 2, 16, 40, 10, 30, 20, 20, 50);
        due.is("readFrom() in FEED", x.readFrom(0), WRONG);
        x.finish();
        due.is("readFrom() in MERGE", x.readFrom(0), WRONG);
        mergeToEnd(x);
        due.is("readFrom(20)", x.readFrom(20), OK);
        due.is("the first 20", x.current(3), 3);
        due.is("readFrom(20) again", x.readFrom(20), OK);
        due.is("the second 20", x.current(3), 4);
        due.is("readFrom(5) reads one on", x.readFrom(5), OK);
        due.is("30", x.current(0), 30);
        due.is("readFrom(41) passes 40", x.readFrom(41), OK);
        due.is("50", x.current(0), 50);
        due.is("readFrom(0) when all is read", x.readFrom(0), END);
        due.is("50 still", x.current(0), 50);
        x.rewind();
        due.is("readFrom(51)", x.readFrom(51), END);
        due.is("the last of the result", x.current(3), 5);
        due.is("read() after it", x.read(), END);
        x.rewind();
        due.is("readFrom(11)", x.readFrom(11), OK);
        due.is("read() after a readFrom()", x.read(), OK);
        due.is("the record after", x.current(3), 4);

        PolyphaseSort none = new PolyphaseSort(3, 2, 8);
        none.finish();
        due.is("readFrom() of nothing", none.readFrom(MIN), END);
        checkNoCurrent("nothing ", none);
    }

    private static void readingFromExtremes() {
        PolyphaseSort x = fed(4, 2, 8, MAX, 0, MIN, MAX, MIN);
        x.finish();
        mergeToEnd(x);
        due.is("readFrom(MIN)", x.readFrom(MIN), OK);
        due.is("the first MIN", x.current(3), 2);
        due.is("readFrom(MAX)", x.readFrom(MAX), OK);
        due.is("the first MAX", x.current(3), 0);
        due.is("readFrom(MIN) reads one on", x.readFrom(MIN), OK);
        due.is("the second MAX", x.current(3), 3);
        due.is("readFrom(MAX) at the end", x.readFrom(MAX), END);

        PolyphaseSort y = new PolyphaseSort(3, 8, 64);
        for (int i = 0; i < 64; i++) {
            y.put(i, 0);
        }
        y.finish();
        due.is("readFrom() over all 64", y.readFrom(64), END);
        due.is("the last of 64", y.current(3), 63);
        y.rewind();
        due.is("readFrom() to the last of 64", y.readFrom(63), OK);
    }

    // Promise 8

    private static void rewinding() {
        PolyphaseSort x = fed(3, 2, 8, 3, 2, 1);
        due.is("rewind() in FEED", x.rewind(), WRONG);
        x.finish();
        due.is("rewind() in MERGE", x.rewind(), WRONG);
        mergeToEnd(x);
        due.is("rewind() before reading", x.rewind(), OK);
        checkNoCurrent("rewound at once ", x);
        x.read();
        x.read();
        due.is("rewind() amid reading", x.rewind(), OK);
        checkNoCurrent("rewound amid ", x);
        for (int key = 1; key <= 3; key++) {
            due.is("read() anew", x.read(), OK);
            due.is("key read anew", x.current(0), key);
        }
        x.read();
        due.is("rewind() after the end", x.rewind(), OK);
        checkNoCurrent("rewound at the end ", x);
        due.is("read() after it", x.read(), OK);
        due.is("level() after it", x.level(), 0);
        due.is("count() after it", x.count(), 3);
        due.is("runs() after it", x.runs(), 2);
        due.is("runsOn() after it", x.runsOn(x.outputTape()), 1);

        PolyphaseSort none = new PolyphaseSort(3, 2, 8);
        none.finish();
        due.is("rewind() of nothing", none.rewind(), OK);
        checkNoCurrent("nothing rewound ", none);
        due.is("read() of nothing rewound", none.read(), END);
    }

    // Promise 9

    private static void clearing() {
        PolyphaseSort x = new PolyphaseSort(4, 2, 10);
        x.clear();
        checkFresh("cleared fresh ", x);
        putAll(x, 9, 8, 7);
        x.clear();
        checkFresh("cleared in FEED ", x);
        putAll(x, 9, 8, 7, 6, 5);
        x.finish();
        x.mergeOne();
        x.clear();
        checkFresh("cleared in MERGE ", x);
        putAll(x, 4, 3, 2, 1);
        x.finish();
        mergeToEnd(x);
        x.read();
        x.clear();
        checkFresh("cleared in SORTED ", x);
        due.is("put after clear()", x.put(6, 60), OK);
        due.is("its origin", x.front(), 0);
        due.is("its run", x.field(0, 2), 1);
        due.is("its value", x.field(0, 1), 60);
        due.is("nothing of before", x.field(1, 0), 0);
        x.put(5, 50);
        x.put(4, 40);
        due.is("W is the same", x.field(2, 2), 2);
        due.is("finish() after clear()", x.finish(), OK);
        due.is("T is the same", x.runsOn(3), 0);
        mergeToEnd(x);
        x.read();
        due.is("the least after clear()", x.current(1), 40);
        x.clear();
        for (int i = 0; i < 10; i++) {
            due.is("put up to the capacity", x.put(i, i), OK);
        }
        due.is("the capacity is the same", x.put(0, 0), FULL);
    }

    // Promise 10

    private static void counting() {
        PolyphaseSort x = new PolyphaseSort(3, 2, 8);
        for (int i = 0; i < 8; i++) {
            due.is("count()", x.count(), i);
            x.put(-i, 0);
        }
        due.is("count() at capacity", x.count(), 8);
        x.put(0, 0);
        due.is("count() after FULL", x.count(), 8);
        x.finish();
        due.is("count() in MERGE", x.count(), 8);
        mergeToEnd(x);
        due.is("count() in SORTED", x.count(), 8);
        x.clear();
        due.is("count() cleared", x.count(), 0);
    }

    // Promise 11

    private static void fields() {
        PolyphaseSort x = new PolyphaseSort(3, 2, 8);
        x.put(MIN, MAX);
        x.put(7, MIN);
        x.put(6, -1);
        x.put(5, 3);
        for (int stage = 0; stage < 3; stage++) {
            int[][] want = {{MIN, MAX, 1, 0}, {7, MIN, 1, 1}, {6, -1, 1, 2}, {5, 3, 2, 3}};
            for (int origin = 0; origin < 4; origin++) {
                for (int what = 0; what < 4; what++) {
                    due.is("field(" + origin + ", " + what + ")", x.field(origin, what), want[origin][what]);
                }
            }
            int[] absent = {MIN, -1, 4, 7, 8, 64, MAX};
            for (int origin : absent) {
                due.is("KEY of " + origin, x.field(origin, 0), 0);
                due.is("VALUE of " + origin, x.field(origin, 1), 0);
                due.is("RUN of " + origin, x.field(origin, 2), 0);
                due.is("ORIGIN of " + origin, x.field(origin, 3), NONE);
            }
            for (int odd : ODD_INTS) {
                due.is("field(1, " + odd + ")", x.field(1, odd), NONE);
                due.is("field(-1, " + odd + ")", x.field(-1, odd), NONE);
                due.is("field(99, " + odd + ")", x.field(99, odd), NONE);
            }
            if (stage == 0) {
                x.finish();
            } else {
                mergeToEnd(x);
            }
        }
    }

    // Promise 12

    private static void fronts() {
        PolyphaseSort x = new PolyphaseSort(3, 3, 16);
        int[] keys = {5, 5, 2, 4, 1, 9, 0};
        // 2 leaves for 4; 4 leaves for 1 (run 2); the older 5 leaves for 9; the other 5 for 0 (run 2).
        int[] want = {0, 0, 2, 3, 0, 1, 5};
        due.is("front() of nothing", x.front(), NONE);
        for (int i = 0; i < keys.length; i++) {
            x.put(keys[i], 100 - i);
            due.is("front() after put " + i, x.front(), want[i]);
        }
        x.finish();
        due.is("front() in MERGE", x.front(), NONE);
        mergeToEnd(x);
        due.is("front() in SORTED", x.front(), NONE);
        x.clear();
        due.is("front() cleared", x.front(), NONE);
    }

    // Promises 13 and 14

    private static void runsAndLevels() {
        PolyphaseSort x = new PolyphaseSort(3, 2, 16);
        int[] keys = {5, 6, 4, 7, 3, 9};
        // 5 leaves for 4 (run 2); 6 leaves for 7 (run 1); 7 leaves for 3 (run 2); 3 leaves for 9 (run 2).
        int[] runs = {1, 1, 2, 2, 2, 2};
        for (int i = 0; i < keys.length; i++) {
            x.put(keys[i], 0);
            due.is("runs() after put " + i, x.runs(), runs[i]);
            due.is("level() in FEED", x.level(), NONE);
        }
        x.finish();
        due.is("runs() in MERGE", x.runs(), 2);
        due.is("level() in MERGE", x.level(), 1);
        mergeToEnd(x);
        due.is("runs() in SORTED", x.runs(), 2);
        due.is("level() in SORTED", x.level(), 0);
        x.read();
        due.is("level() while reading", x.level(), 0);
        x.clear();
        due.is("runs() cleared", x.runs(), 0);
        due.is("level() cleared", x.level(), NONE);
    }

    // Promise 15

    private static void runsOnTapes() {
        for (int tapes = 3; tapes <= 4; tapes++) {
            PolyphaseSort x = withRuns(tapes, 6);
            for (int tape = -1; tape <= 4; tape++) {
                due.is("runsOn(" + tape + ") in FEED", x.runsOn(tape), NONE);
            }
            x.finish();
            checkNoSuchTape(x, tapes);
            due.is("runsOn(0)", x.runsOn(0), tapes == 3 ? 5 : 4);
            mergeToEnd(x);
            checkNoSuchTape(x, tapes);
            for (int tape = 0; tape < tapes; tape++) {
                due.is("runsOn(" + tape + ") at last", x.runsOn(tape), tape == x.outputTape() ? 1 : 0);
            }
        }
    }

    private static void checkNoSuchTape(PolyphaseSort x, int tapes) {
        for (int odd : ODD_INTS) {
            due.is("runsOn(" + odd + ")", x.runsOn(odd), NONE);
        }
        due.is("runsOn(" + tapes + ")", x.runsOn(tapes), NONE);
        due.is("runsOn(T-1) is there", x.runsOn(tapes - 1) == NONE ? 0 : 1, 1);
    }

    // Promise 16

    private static void outputTapes() {
        int[] three = {2, 1, 0, 2, 1, 0, 2};
        int[] four = {3, 2, 1, 0, 3, 2};
        checkOutputs(withRuns(3, 32), three);
        checkOutputs(withRuns(4, 32), four);
    }

    private static void checkOutputs(PolyphaseSort x, int[] outputs) {
        due.is("outputTape() in FEED", x.outputTape(), NONE);
        x.finish();
        for (int i = 0; i < outputs.length; i++) {
            due.is("outputTape() of phase " + i, x.outputTape(), outputs[i]);
            x.mergePhase();
        }
        due.is("outputTape() in SORTED", x.outputTape(), outputs[outputs.length - 1]);
        x.read();
        due.is("outputTape() while reading", x.outputTape(), outputs[outputs.length - 1]);
        x.clear();
        due.is("outputTape() cleared", x.outputTape(), NONE);
    }

    // Promise 17

    private static void currents() {
        PolyphaseSort x = new PolyphaseSort(3, 2, 8);
        x.put(3, 30);
        x.put(2, MIN);
        x.put(MIN, -7);
        checkNoCurrent("current in FEED ", x);
        x.finish();
        checkNoCurrent("current in MERGE ", x);
        mergeToEnd(x);
        checkNoCurrent("current unread ", x);
        int[][] want = {{MIN, -7, 2, 2}, {2, MIN, 1, 1}, {3, 30, 1, 0}};
        for (int i = 0; i < 3; i++) {
            x.read();
            for (int what = 0; what < 4; what++) {
                due.is("current(" + what + ") of " + i, x.current(what), want[i][what]);
            }
            for (int odd : ODD_INTS) {
                due.is("current(" + odd + ") of " + i, x.current(odd), NONE);
            }
        }
        x.rewind();
        checkNoCurrent("current rewound ", x);
        for (int odd : ODD_INTS) {
            due.is("current(" + odd + ") of none", x.current(odd), NONE);
        }
    }

    // 'What it is': the getters change nothing

    private static void gettersChangeNothing() {
        PolyphaseSort x = fed(3, 2, 8, 4, 3, 2, 1, 0);
        for (int step = 0; step < 12; step++) {
            int[] before = allAnswers(x);
            due.holds("the getters change nothing at step " + step, same(before, allAnswers(x)));
            if (step == 0) {
                x.finish();
            } else if (x.level() > 0) {
                x.mergeOne();
            } else {
                x.read();
            }
        }
    }

    // What the tests share

    private static PolyphaseSort fed(int tapes, int cells, int capacity, int... keys) {
        PolyphaseSort x = new PolyphaseSort(tapes, cells, capacity);
        putAll(x, keys);
        return x;
    }

    private static void putAll(PolyphaseSort x, int... keys) {
        for (int i = 0; i < keys.length; i++) {
            due.is("put(" + keys[i] + ")", x.put(keys[i], i), OK);
        }
    }

    /** With two cells and falling keys every two records make a run. */
    private static PolyphaseSort withRuns(int tapes, int runs) {
        PolyphaseSort x = new PolyphaseSort(tapes, 2, 64);
        for (int i = 0; i < 2 * runs; i++) {
            x.put(-i, i);
        }
        return x;
    }

    private static void mergeToEnd(PolyphaseSort x) {
        for (int i = 0; i < 100 && x.level() > 0; i++) {
            x.mergePhase();
        }
        due.is("level() after all merging", x.level(), 0);
    }

    private static int[] allFields(PolyphaseSort x) {
        int[] all = new int[4 * 64 + 2];
        for (int i = 0; i < 4 * 64; i++) {
            all[i] = x.field(i / 4, i % 4);
        }
        all[4 * 64] = x.count();
        all[4 * 64 + 1] = x.runs();
        return all;
    }

    private static int[] allAnswers(PolyphaseSort x) {
        int[] fields = allFields(x);
        int[] all = java.util.Arrays.copyOf(fields, fields.length + 16);
        int at = fields.length;
        all[at] = x.front();
        all[at + 1] = x.level();
        all[at + 2] = x.outputTape();
        for (int i = 0; i < 6; i++) {
            all[at + 3 + i] = x.runsOn(i - 1);
            all[at + 9 + i] = x.current(i - 1);
        }
        return all;
    }

    private static boolean same(int[] a, int[] b) {
        return java.util.Arrays.equals(a, b);
    }
}
