import java.util.function.Supplier;

/** Tests of promise 7: readFrom. */
final class Promise07 extends Part {
    private static final int[] KEYS = {40, 10, 30, 20, 20, 50};
    private static final int[] WIDE_KEYS = {MAX, 0, MIN, 5, MAX, -1, MIN, 5, 5, MAX - 1};

    private static PolyphaseSort read(int times) {
        return afterReads(fed(3, 2, 16, KEYS), times);
    }

    private static PolyphaseSort readWide(int times) {
        return afterReads(fed(4, 2, 16, WIDE_KEYS), times);
    }

    @Says("`readFrom(key)` reads on to a key.")
    static void readsOnToAKey(Due due) {
        PolyphaseSort x = read(0);
        due.is("readFrom(30)", x.readFrom(30), OK);
        due.is("current(KEY)", x.current(KEY), 30);
        due.is("current(VALUE)", x.current(VALUE), 98);
        due.is("current(ORIGIN)", x.current(ORIGIN), 2);
    }

    @Says("Every int is allowed.")
    static void everyIntIsAllowed(Due due) {
        int[][] origins = {{MIN, 2}, {MIN + 1, 5}, {-1, 5}, {0, 1}, {1, 3}, {5, 3}, {6, 9}, {MAX - 1, 9}, {MAX, 0}};
        for (int[] pair : origins) {
            PolyphaseSort x = readWide(0);
            due.is("readFrom(" + pair[0] + ")", x.readFrom(pair[0]), OK);
            due.is("current(ORIGIN)", x.current(ORIGIN), pair[1]);
        }
    }

    @Says("If the stage is not SORTED: answers `WRONG`, nothing changes.")
    static void isWrongOutsideSorted(Due due) {
        refused(due, "readFrom(0)", Situation.notSorted(), WRONG, x -> x.readFrom(0));
        refused(due, "readFrom(MIN)", Situation.notSorted(), WRONG, x -> x.readFrom(MIN));
        refused(due, "readFrom(MAX)", Situation.notSorted(), WRONG, x -> x.readFrom(MAX));
    }

    @Says("Otherwise it is the same as calling `read()`")
    static void isTheSameAsReadOverAndOver(Due due) {
        for (int key : new int[] {MIN, MIN + 1, -2, -1, 0, 1, 4, 5, 6, MAX - 2, MAX - 1, MAX}) {
            for (int before = 0; before <= WIDE_KEYS.length + 1; before++) {
                sameAsReads(due, key, before);
            }
        }
    }

    private static void sameAsReads(Due due, int key, int before) {
        String name = "readFrom(" + key + ") after " + before;
        due.is(name, readWide(before).readFrom(key), reads(readWide(before), key));
        Supplier<PolyphaseSort> one = () -> {
            PolyphaseSort x = readWide(before);
            x.readFrom(key);
            return x;
        };
        Supplier<PolyphaseSort> other = () -> {
            PolyphaseSort x = readWide(before);
            reads(x, key);
            return x;
        };
        Twins.alike(due, name, one, other);
    }

    private static int reads(PolyphaseSort x, int key) {
        int answer = x.read();
        for (int i = 0; i < 100 && answer == OK && x.current(KEY) < key; i++) {
            answer = x.read();
        }
        return answer;
    }

    @Says("(at least once)")
    static void readsAtLeastOnce(Due due) {
        PolyphaseSort x = read(0);
        int[] result = resultOf(KEYS);
        for (int origin : result) {
            due.is("readFrom(MIN)", x.readFrom(MIN), OK);
            due.is("current(ORIGIN)", x.current(ORIGIN), origin);
        }
        due.is("readFrom(MIN) after the last", x.readFrom(MIN), END);
    }

    @Says("until it answers `END`, or answers `OK` with the key of the new current record greater")
    static void stopsAtAGreaterKey(Due due) {
        PolyphaseSort x = read(0);
        due.is("readFrom(11)", x.readFrom(11), OK);
        due.is("current(ORIGIN)", x.current(ORIGIN), 3);
        due.is("readFrom(31)", x.readFrom(31), OK);
        due.is("current(ORIGIN)", x.current(ORIGIN), 0);
    }

    @Says("than or equal to the given key.")
    static void stopsAtAnEqualKey(Due due) {
        PolyphaseSort x = read(0);
        due.is("readFrom(20)", x.readFrom(20), OK);
        due.is("current(ORIGIN)", x.current(ORIGIN), 3);
        due.is("readFrom(50)", x.readFrom(50), OK);
        due.is("current(ORIGIN)", x.current(ORIGIN), 5);
        PolyphaseSort wide = readWide(0);
        due.is("readFrom(MAX)", wide.readFrom(MAX), OK);
        due.is("current(ORIGIN)", wide.current(ORIGIN), 0);
    }

    @Says("The last answer of `read()` is the answer.")
    static void answersAsTheLastRead(Due due) {
        for (int before = 0; before <= 7; before++) {
            due.is("readFrom(50) after " + before, read(before).readFrom(50), before < 6 ? OK : END);
            due.is("readFrom(51) after " + before, read(before).readFrom(51), END);
        }
    }

    @Says("In particular: It only reads forward.")
    static void readsOnlyForward(Due due) {
        PolyphaseSort x = read(5);
        due.is("current(KEY)", x.current(KEY), 40);
        due.is("readFrom(10)", x.readFrom(10), OK);
        due.is("current(KEY)", x.current(KEY), 50);
        due.is("readFrom(10) again", x.readFrom(10), END);
        due.is("current(KEY)", x.current(KEY), 50);
    }

    @Says("Whatever the current record's key is, at least one further `read()` is done.")
    static void readsOnFromAnEqualOrGreaterKey(Due due) {
        PolyphaseSort x = read(0);
        x.readFrom(20);
        due.is("the first 20", x.current(ORIGIN), 3);
        due.is("readFrom(20) again", x.readFrom(20), OK);
        due.is("the second 20", x.current(ORIGIN), 4);
        due.is("readFrom(20) once more", x.readFrom(20), OK);
        due.is("the 30", x.current(ORIGIN), 2);
        due.is("readFrom(5)", x.readFrom(5), OK);
        due.is("the 40", x.current(ORIGIN), 0);
    }

    @Says("Records passed over count as read.")
    static void recordsPassedOverCountAsRead(Due due) {
        PolyphaseSort x = read(0);
        x.readFrom(30);
        readsOrigins(due, "after readFrom(30)", x, 0, 5);
        x.rewind();
        due.is("readFrom(51)", x.readFrom(51), END);
        due.is("read() after passing all", x.read(), END);
    }

    @Says("If no unread record has a key greater than or equal to the given key, all remaining records "
        + "are read, the answer is `END`, and the current record is the record read last, that is, the "
        + "last of the result")
    static void withNoSuchKeyAllIsRead(Due due) {
        for (int key : new int[] {51, MAX}) {
            for (int before = 0; before <= 5; before++) {
                PolyphaseSort x = read(before);
                due.is("readFrom(" + key + ") after " + before, x.readFrom(key), END);
                due.is("current(KEY)", x.current(KEY), 50);
                due.is("current(ORIGIN)", x.current(ORIGIN), 5);
                due.is("read() then", x.read(), END);
                due.is("readFrom(MIN) then", x.readFrom(MIN), END);
            }
        }
        PolyphaseSort most = sorted(fed(3, 2, 64, falling(64)));
        due.is("readFrom(64) over 64 records", most.readFrom(64), END);
        due.is("the last of them", most.current(ORIGIN), 0);
        due.is("read() then", most.read(), END);
    }

    @Says("(or there is none, if there are no records).")
    static void withoutRecordsThereIsNoCurrent(Due due) {
        for (int tapes = 3; tapes <= 4; tapes++) {
            for (int key : EXTREMES) {
                PolyphaseSort x = finished(new PolyphaseSort(tapes, 2, 8));
                due.is("readFrom(" + key + ")", x.readFrom(key), END);
                noCurrent(due, "readFrom(" + key + ")", x);
                due.is("readFrom(" + key + ") again", x.readFrom(key), END);
            }
        }
    }

    @Says("If all records had been read already, the answer is `END` and nothing changes.")
    static void whenAllIsReadNothingChanges(Due due) {
        for (int key : new int[] {MIN, 10, 49, 50, 51, MAX}) {
            for (int before = 6; before <= 7; before++) {
                due.is("readFrom(" + key + ") after all", read(before).readFrom(key), END);
                int times = before;
                Twins.alike(due, "readFrom(" + key + ") after all", () -> readOnFrom(times, key), () -> read(6));
            }
        }
    }

    private static PolyphaseSort readOnFrom(int before, int key) {
        PolyphaseSort x = read(before);
        x.readFrom(key);
        return x;
    }

    @Says("What `read()` leaves unchanged stays unchanged here too.")
    static void nothingElseChanges(Due due) {
        for (Situation situation : Situation.sorted()) {
            for (int key : new int[] {MIN, 15, MAX}) {
                PolyphaseSort x = situation.made();
                x.readFrom(key);
                same(due, situation.name(), x, situation.made(), Getter.COUNT, Getter.FIELD, Getter.FRONT,
                        Getter.RUNS, Getter.LEVEL, Getter.RUNS_ON, Getter.OUTPUT_TAPE);
                due.is(situation.name() + ": rewind() is still allowed", x.rewind(), OK);
            }
        }
    }
}
