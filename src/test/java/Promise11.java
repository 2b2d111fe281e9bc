/** Tests of promise 11: field. */
final class Promise11 extends Part {
    private static final int[][] RECORDS = {
        {MIN, MAX, 1, 0}, {7, MIN, 1, 1}, {6, -1, 1, 2}, {5, 3, 2, 3}, {MAX, 0, 1, 4}};

    private static PolyphaseSort example() {
        PolyphaseSort x = new PolyphaseSort(3, 2, 8);
        // MIN leaves for 6 (run 1); 6 leaves for 5 (run 2); 7 leaves for MAX (run 1).
        for (int[] record : RECORDS) {
            x.put(record[KEY], record[VALUE]);
        }
        return x;
    }

    private static PolyphaseSort[] inEveryStage() {
        return new PolyphaseSort[] {
            example(), finished(example()), sorted(example()), afterReads(example(), 3), afterReads(example(), 6)};
    }

    @Says({"`field(origin, what)` answers a field of the record with the given origin, in any stage.",
        "Otherwise that field of the record;"})
    static void answersTheFieldInAnyStage(Due due) {
        for (PolyphaseSort x : inEveryStage()) {
            for (int origin = 0; origin < RECORDS.length; origin++) {
                for (int what = KEY; what <= RUN; what++) {
                    due.is("field(" + origin + ", " + what + ") at level " + x.level(),
                            x.field(origin, what), RECORDS[origin][what]);
                }
            }
        }
    }

    @Says({"The following cases apply in this order:",
        "`what` is none of `KEY`, `VALUE`, `RUN`, `ORIGIN`: `NONE`,"})
    static void aWhatOutOfRangeIsNone(Due due) {
        for (PolyphaseSort x : inEveryStage()) {
            for (int what : NO_FIELDS) {
                for (int origin = 0; origin < RECORDS.length; origin++) {
                    due.is("field(" + origin + ", " + what + ")", x.field(origin, what), NONE);
                }
            }
        }
    }

    @Says("whatever `origin` is.")
    static void aWhatOutOfRangeIsNoneWhateverTheOrigin(Due due) {
        for (PolyphaseSort x : inEveryStage()) {
            for (int what : NO_FIELDS) {
                for (int origin : new int[] {MIN, -2, -1, 5, 6, 8, 63, 64, 65, MAX}) {
                    due.is("field(" + origin + ", " + what + ")", x.field(origin, what), NONE);
                }
            }
        }
        PolyphaseSort empty = new PolyphaseSort(4, 2, 8);
        for (int what : NO_FIELDS) {
            due.is("field(0, " + what + ") of no records", empty.field(0, what), NONE);
        }
    }

    @Says("`origin` is below 0")
    static void anOriginBelowZeroHasNoRecord(Due due) {
        for (PolyphaseSort x : inEveryStage()) {
            for (int origin : new int[] {MIN, MIN + 1, -64, -3, -2, -1}) {
                noRecord(due, x, origin);
            }
        }
    }

    @Says("or not below `count()`:")
    static void anOriginNotBelowTheCountHasNoRecord(Due due) {
        for (PolyphaseSort x : inEveryStage()) {
            for (int origin : new int[] {5, 6, 7, 8, 9, 63, 64, 65, 256, MAX - 1, MAX}) {
                noRecord(due, x, origin);
            }
        }
        PolyphaseSort most = new PolyphaseSort(3, 8, 64);
        for (int i = 0; i <= 64; i++) {
            noRecord(due, most, i);
            most.put(i + 1, i + 1);
        }
        PolyphaseSort cleared = example();
        cleared.clear();
        noRecord(due, cleared, 0);
        cleared.put(1, 1);
        noRecord(due, cleared, 1);
    }

    private static void noRecord(Due due, PolyphaseSort x, int origin) {
        due.is("field(" + origin + ", KEY)", x.field(origin, KEY), 0);
        due.is("field(" + origin + ", VALUE)", x.field(origin, VALUE), 0);
        due.is("field(" + origin + ", RUN)", x.field(origin, RUN), 0);
        due.is("field(" + origin + ", ORIGIN)", x.field(origin, ORIGIN), NONE);
    }

    @Says("`NONE` if `what` is `ORIGIN`,")
    static void theOriginOfNoRecordIsNone(Due due) {
        for (PolyphaseSort x : inEveryStage()) {
            due.is("field(-1, ORIGIN)", x.field(-1, ORIGIN), NONE);
            due.is("field(-2, ORIGIN)", x.field(-2, ORIGIN), NONE);
            due.is("field(5, ORIGIN)", x.field(5, ORIGIN), NONE);
            due.is("field(64, ORIGIN)", x.field(64, ORIGIN), NONE);
        }
    }

    @Says("otherwise 0.")
    static void otherFieldsOfNoRecordAreZero(Due due) {
        for (PolyphaseSort x : inEveryStage()) {
            for (int what = KEY; what <= RUN; what++) {
                due.is("field(-1, " + what + ")", x.field(-1, what), 0);
                due.is("field(5, " + what + ")", x.field(5, what), 0);
                due.is("field(64, " + what + ")", x.field(64, what), 0);
            }
        }
    }

    @Says("for `ORIGIN` the argument `origin` itself.")
    static void theOriginIsTheArgument(Due due) {
        for (int records = 1; records <= 64; records++) {
            PolyphaseSort x = fed(4, 3, 64, falling(records));
            due.is("field(0, ORIGIN)", x.field(0, ORIGIN), 0);
            due.is("field(" + (records - 1) + ", ORIGIN)", x.field(records - 1, ORIGIN), records - 1);
        }
        for (PolyphaseSort x : inEveryStage()) {
            for (int origin = 0; origin < RECORDS.length; origin++) {
                due.is("field(" + origin + ", ORIGIN)", x.field(origin, ORIGIN), origin);
            }
        }
    }

    @Says("It changes nothing.")
    static void itChangesNothing(Due due) {
        changesNothing(due, Getter.FIELD);
    }
}
