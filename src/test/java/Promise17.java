/** Tests of promise 17: current. */
final class Promise17 extends Part {
    /** In the order of the result: {key, value, run, origin}. */
    private static final int[][] RESULT = {{MIN, -7, 2, 2}, {2, MIN, 1, 1}, {3, 30, 1, 0}};

    private static PolyphaseSort example() {
        PolyphaseSort x = new PolyphaseSort(3, 2, 8);
        x.put(3, 30);
        x.put(2, MIN);
        x.put(MIN, -7);
        return x;
    }

    @Says({"`current(what)` answers a field of the current record.", "Otherwise that field of the current record."})
    static void answersTheFieldsOfTheCurrentRecord(Due due) {
        PolyphaseSort x = sorted(example());
        for (int[] record : RESULT) {
            x.read();
            for (int what = KEY; what <= ORIGIN; what++) {
                due.is("current(" + what + ")", x.current(what), record[what]);
            }
        }
    }

    @Says({"The following cases apply in this order:", "`what` is none of `KEY`, `VALUE`, `RUN`, `ORIGIN`: `NONE`."})
    static void aWhatOutOfRangeIsNone(Due due) {
        for (int reads = 1; reads <= 4; reads++) {
            PolyphaseSort x = afterReads(example(), reads);
            for (int what : NO_FIELDS) {
                due.is("current(" + what + ") after " + reads, x.current(what), NONE);
            }
        }
    }

    @Says("The following cases apply in this order:")
    static void aWhatOutOfRangeIsNoneWithoutACurrentRecordToo(Due due) {
        PolyphaseSort[] all = {
            new PolyphaseSort(4, 2, 8), example(), finished(example()), sorted(example()),
            finished(new PolyphaseSort(3, 2, 8))};
        for (PolyphaseSort x : all) {
            for (int what : NO_FIELDS) {
                due.is("current(" + what + ")", x.current(what), NONE);
            }
        }
    }

    @Says({"There is no current record (nothing read since the stage became SORTED",
        "`NONE` if `what` is `ORIGIN`, otherwise 0."})
    static void thereIsNoneBeforeTheFirstRead(Due due) {
        noCurrent(due, "sorted by mergePhase()", sorted(example()));
        noCurrent(due, "sorted by finish()", finished(fed(3, 2, 8, 5, 6, 7)));
        noCurrent(due, "no records", finished(new PolyphaseSort(3, 2, 8)));
        PolyphaseSort x = finished(new PolyphaseSort(4, 2, 8));
        x.read();
        noCurrent(due, "no records, read", x);
        x.readFrom(MIN);
        noCurrent(due, "no records, read on", x);
    }

    @Says("or since `rewind()`,")
    static void thereIsNoneAfterRewind(Due due) {
        for (int reads = 0; reads <= 4; reads++) {
            PolyphaseSort x = afterReads(example(), reads);
            x.rewind();
            noCurrent(due, "rewound after " + reads, x);
        }
    }

    @Says("or the stage is FEED")
    static void thereIsNoneInFeed(Due due) {
        for (Situation situation : Situation.feed()) {
            noCurrent(due, situation.name(), situation.made());
        }
        for (Situation situation : Situation.full()) {
            noCurrent(due, situation.name(), situation.made());
        }
        for (Situation situation : Situation.any()) {
            PolyphaseSort x = situation.made();
            x.clear();
            noCurrent(due, situation.name() + ", cleared", x);
            x.put(1, 1);
            noCurrent(due, situation.name() + ", fed again", x);
        }
    }

    @Says("or MERGE):")
    static void thereIsNoneInMerge(Due due) {
        for (Situation situation : Situation.merge()) {
            noCurrent(due, situation.name(), situation.made());
        }
        PolyphaseSort x = afterReads(example(), 2);
        x.clear();
        putAll(x, falling(8));
        x.finish();
        noCurrent(due, "MERGE after an earlier round was read", x);
    }

    @Says("`NONE` if `what` is `ORIGIN`,")
    static void theOriginOfNoRecordIsNone(Due due) {
        for (Situation situation : Situation.notSorted()) {
            due.is(situation.name() + ": current(ORIGIN)", situation.made().current(ORIGIN), NONE);
        }
        due.is("current(ORIGIN) unread", sorted(example()).current(ORIGIN), NONE);
    }

    @Says("otherwise 0.")
    static void theOtherFieldsOfNoRecordAreZero(Due due) {
        for (Situation situation : Situation.notSorted()) {
            for (int what = KEY; what <= RUN; what++) {
                due.is(situation.name() + ": current(" + what + ")", situation.made().current(what), 0);
            }
        }
        for (int what = KEY; what <= RUN; what++) {
            due.is("current(" + what + ") unread", sorted(example()).current(what), 0);
        }
    }

    @Says("`RUN` is the run number given when the record arrived.")
    static void theRunIsTheOneGivenOnArrival(Due due) {
        for (int tapes = 3; tapes <= 4; tapes++) {
            PolyphaseSort x = sorted(withRuns(tapes, 32));
            for (int origin = 63; origin >= 0; origin--) {
                x.read();
                due.is("current(ORIGIN)", x.current(ORIGIN), origin);
                due.is("current(RUN) of " + origin, x.current(RUN), origin / 2 + 1);
            }
        }
    }

    @Says("It changes nothing.")
    static void itChangesNothing(Due due) {
        changesNothing(due, Getter.CURRENT);
    }
}
