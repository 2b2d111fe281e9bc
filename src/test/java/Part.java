import java.util.Arrays;
import java.util.List;
import java.util.function.Supplier;
import java.util.function.ToIntFunction;

/** What the tests of the promises share. The numbers stand here as the document gives them. */
abstract class Part {
    static final int OK = 0;
    static final int WRONG = 1;
    static final int FULL = 2;
    static final int END = 3;
    static final int PHASE = 4;
    static final int DONE = 5;
    static final int NONE = -1;
    static final int KEY = 0;
    static final int VALUE = 1;
    static final int RUN = 2;
    static final int ORIGIN = 3;

    static final int MIN = -2147483648;
    static final int MAX = 2147483647;
    static final int[] EXTREMES = {MIN, MIN + 1, -1, 0, 1, MAX - 1, MAX};

    /** Ints that name no field, and no tape either. */
    static final int[] NO_FIELDS = {MIN, MIN + 1, -256, -2, -1, 4, 5, 6, 7, 256, 259, MAX - 1, MAX};

    static final int[][] ROWS_3 = {
        {1, 0}, {1, 1}, {2, 1}, {3, 2}, {5, 3}, {8, 5}, {13, 8}, {21, 13}};
    static final int[][] ROWS_4 = {
        {1, 0, 0}, {1, 1, 1}, {2, 2, 1}, {4, 3, 2}, {7, 6, 4}, {13, 11, 7}, {24, 20, 13}};

    static int[][] rows(int tapes) {
        return tapes == 3 ? ROWS_3 : ROWS_4;
    }

    static int total(int[] row) {
        return Arrays.stream(row).sum();
    }

    /** The least level that has room for so many runs. */
    static int levelFor(int tapes, int runs) {
        int level = 0;
        while (total(rows(tapes)[level]) < runs) {
            level++;
        }
        return level;
    }

    // Objects to begin with

    static PolyphaseSort fed(int tapes, int cells, int capacity, int... keys) {
        PolyphaseSort x = new PolyphaseSort(tapes, cells, capacity);
        putAll(x, keys);
        return x;
    }

    /** The values fall while the origins rise, so that neither can be taken for the other. */
    static void putAll(PolyphaseSort x, int... keys) {
        for (int i = 0; i < keys.length; i++) {
            x.put(keys[i], 100 - i);
        }
    }

    /** Records that are alike in key and value are still records of their own. */
    static PolyphaseSort fedWithOneValue(int tapes, int... keys) {
        PolyphaseSort x = new PolyphaseSort(tapes, 2, 64);
        for (int key : keys) {
            x.put(key, 5);
        }
        return x;
    }

    static int[] falling(int number) {
        int[] keys = new int[number];
        for (int i = 0; i < number; i++) {
            keys[i] = number - 1 - i;
        }
        return keys;
    }

    static int[] rising(int number) {
        int[] keys = new int[number];
        for (int i = 0; i < number; i++) {
            keys[i] = i;
        }
        return keys;
    }

    static int[] alwaysThe(int key, int number) {
        int[] keys = new int[number];
        Arrays.fill(keys, key);
        return keys;
    }

    /** With two cells and falling keys every two records make a run. */
    static PolyphaseSort withRuns(int tapes, int runs) {
        return fed(tapes, 2, 64, falling(2 * runs));
    }

    static PolyphaseSort finished(PolyphaseSort x) {
        x.finish();
        return x;
    }

    /** Asks no getter on the way, so that nothing a getter might do is done already. */
    static PolyphaseSort sorted(PolyphaseSort x) {
        x.finish();
        int answer = PHASE;
        for (int i = 0; i < 10 && answer == PHASE; i++) {
            answer = x.mergePhase();
        }
        return x;
    }

    static PolyphaseSort afterReads(PolyphaseSort x, int times) {
        sorted(x);
        for (int i = 0; i < times; i++) {
            x.read();
        }
        return x;
    }

    // What is asked of them

    /** The call gets this answer each time, and leaves the object as one that never had it. */
    static void refused(Due due, String call, List<Situation> situations, int answer,
            ToIntFunction<PolyphaseSort> made) {
        for (Situation situation : situations) {
            PolyphaseSort x = situation.made();
            String name = situation.name() + ": " + call;
            due.is(name, made.applyAsInt(x), answer);
            due.is(name + " again", made.applyAsInt(x), answer);
            Twins.alike(due, name, () -> afterCall(situation, made), situation::made);
        }
    }

    private static PolyphaseSort afterCall(Situation situation, ToIntFunction<PolyphaseSort> call) {
        PolyphaseSort x = situation.made();
        call.applyAsInt(x);
        return x;
    }

    static void changesNothing(Due due, Getter getter) {
        for (Situation situation : Situation.any()) {
            unchanged(due, situation.name() + ": " + getter, () -> asked(situation, getter), situation::made);
        }
    }

    /** Each getter is asked of its own two objects, as it might do itself what is looked for. */
    static void unchanged(Due due, String name, Supplier<PolyphaseSort> one, Supplier<PolyphaseSort> other) {
        for (Getter getter : Getter.values()) {
            same(due, name, one.get(), other.get(), getter);
        }
        Twins.alikeWithoutGetters(due, name, one, other);
    }

    static PolyphaseSort asked(Situation situation, Getter... getters) {
        PolyphaseSort x = situation.made();
        for (Getter getter : getters) {
            getter.ask(x);
        }
        return x;
    }

    /** These getters answer for the one as they do for the other. */
    static void same(Due due, String name, PolyphaseSort one, PolyphaseSort other, Getter... getters) {
        for (Getter getter : getters) {
            int[] got = getter.ask(one);
            int[] want = getter.ask(other);
            due.holds(name + ": " + getter + " is " + shortened(want) + ", not " + shortened(got),
                    Arrays.equals(got, want));
        }
    }

    private static String shortened(int[] answers) {
        return answers.length > 20 ? "as before" : Arrays.toString(answers);
    }

    static void noCurrent(Due due, String name, PolyphaseSort x) {
        due.is(name + ": current(KEY)", x.current(KEY), 0);
        due.is(name + ": current(VALUE)", x.current(VALUE), 0);
        due.is(name + ": current(RUN)", x.current(RUN), 0);
        due.is(name + ": current(ORIGIN)", x.current(ORIGIN), NONE);
    }

    /** Reads to the end and finds the records of these origins, in this order. */
    static void readsOrigins(Due due, String name, PolyphaseSort x, int... origins) {
        for (int i = 0; i < origins.length; i++) {
            due.is(name + ": read() " + i, x.read(), OK);
            due.is(name + ": origin at " + i, x.current(ORIGIN), origins[i]);
        }
        due.is(name + ": read() after the last", x.read(), END);
    }

    /** The origins of these keys in the order of the result. */
    static int[] resultOf(int... keys) {
        int[] origins = new int[keys.length];
        for (int i = 0; i < keys.length; i++) {
            origins[placeOf(keys, i)] = i;
        }
        return origins;
    }

    private static int placeOf(int[] keys, int origin) {
        int place = 0;
        for (int i = 0; i < keys.length; i++) {
            if (keys[i] < keys[origin] || keys[i] == keys[origin] && i < origin) {
                place++;
            }
        }
        return place;
    }

    static void hasRuns(Due due, String name, PolyphaseSort x, int... counts) {
        for (int tape = 0; tape < counts.length; tape++) {
            due.is(name + ": runsOn(" + tape + ")", x.runsOn(tape), counts[tape]);
        }
    }

    /** The run numbers of all the records, in the order of arrival. */
    static void hasRunNumbers(Due due, String name, PolyphaseSort x, int... numbers) {
        due.is(name + ": count()", x.count(), numbers.length);
        for (int origin = 0; origin < numbers.length; origin++) {
            due.is(name + ": run of " + origin, x.field(origin, RUN), numbers[origin]);
        }
    }

    /** The fronts, as records leave one after another because ever greater keys than all come in. */
    static void leave(Due due, String name, PolyphaseSort x, int... origins) {
        for (int i = 0; i < origins.length; i++) {
            due.is(name + ": front() " + i, x.front(), origins[i]);
            x.put(MAX, 0);
        }
    }

    /** Whether T, W and the capacity are these, told by what the object does once it is cleared. */
    static void hasSizes(Due due, String name, PolyphaseSort x, int tapes, int cells, int capacity) {
        x.clear();
        for (int i = 0; i < capacity; i++) {
            due.is(name + ": put " + i + " of " + capacity, x.put(-i, 0), OK);
            due.is(name + ": runs() with W = " + cells + " after put " + i, x.runs(), i / cells + 1);
        }
        due.is(name + ": put beyond " + capacity, x.put(0, 0), FULL);
        due.is(name + ": count() then", x.count(), capacity);
        due.is(name + ": finish()", x.finish() == WRONG ? 1 : 0, 0);
        due.holds(name + ": there is a tape " + (tapes - 1), x.runsOn(tapes - 1) != NONE);
        due.is(name + ": runsOn(" + tapes + ")", x.runsOn(tapes), NONE);
        due.is(name + ": level()", x.level(), levelFor(tapes, (capacity - 1) / cells + 1));
    }
}
