import java.util.Arrays;

/** Tests of promise 6: read. */
final class Promise06 extends Part {
    private static final int[] KEYS = {4, MAX, 1, MIN, 4, 1, 0, MAX, 4, MIN};

    @Says("`read()` reads the next record of the result.")
    static void readsOneRecordAtATime(Due due) {
        PolyphaseSort x = sorted(fed(3, 2, 8, 30, 20, 10));
        int[][] records = {{10, 98, 2, 2}, {20, 99, 1, 1}, {30, 100, 1, 0}};
        for (int[] record : records) {
            due.is("read()", x.read(), OK);
            for (int what = KEY; what <= ORIGIN; what++) {
                due.is("current(" + what + ")", x.current(what), record[what]);
            }
        }
    }

    @Says("If the stage is not SORTED: answers `WRONG`, nothing changes.")
    static void isWrongOutsideSorted(Due due) {
        refused(due, "read()", Situation.notSorted(), WRONG, x -> x.read());
    }

    @Says("The result is the sequence of all `count()` records in ascending order of key,")
    static void theResultHasAllRecordsByKey(Due due) {
        for (int tapes = 3; tapes <= 4; tapes++) {
            for (int records = 0; records <= 64; records++) {
                for (int cells = 2; cells <= 8; cells += 3) {
                    allByKey(due, tapes, cells, falling(records));
                    allByKey(due, tapes, cells, rising(records));
                    allByKey(due, tapes, cells, scattered(records));
                }
            }
        }
    }

    private static void allByKey(Due due, int tapes, int cells, int[] keys) {
        PolyphaseSort x = sorted(fed(tapes, cells, 64, keys));
        int[] inOrder = keys.clone();
        Arrays.sort(inOrder);
        for (int i = 0; i < keys.length; i++) {
            due.is("read() " + i + " of " + keys.length, x.read(), OK);
            due.is("key " + i + " of " + keys.length, x.current(KEY), inOrder[i]);
        }
        due.is("read() after " + keys.length, x.read(), END);
    }

    private static int[] scattered(int number) {
        int[] keys = new int[number];
        for (int i = 0; i < number; i++) {
            keys[i] = i * 0x9E3779B9;
        }
        return keys;
    }

    @Says("records with equal keys in ascending order of origin.")
    static void equalKeysComeInOrderOfOrigin(Due due) {
        for (int tapes = 3; tapes <= 4; tapes++) {
            readsOrigins(due, "mixed keys", sorted(fed(tapes, 2, 16, KEYS)), resultOf(KEYS));
            readsOrigins(due, "all the same", sorted(fedWithOneValue(tapes, KEYS)), resultOf(KEYS));
            for (int key : EXTREMES) {
                readsOrigins(due, "only " + key, sorted(fed(tapes, 3, 64, alwaysThe(key, 64))), rising(64));
            }
        }
    }

    @Says("If all of them have been read since the stage became SORTED")
    static void endsAfterAllHaveBeenRead(Due due) {
        for (int records = 1; records <= 12; records++) {
            PolyphaseSort x = afterReads(fed(3, 2, 12, falling(records)), records - 1);
            due.is("the last read() of " + records, x.read(), OK);
            due.is("one read() more", x.read(), END);
            due.is("and another", x.read(), END);
        }
    }

    @Says("or since the last `rewind()`, whichever is later:")
    static void endsAfterAllHaveBeenReadSinceRewind(Due due) {
        for (int before = 0; before <= 7; before++) {
            PolyphaseSort x = afterReads(fed(4, 2, 8, falling(6)), before);
            x.rewind();
            readsOrigins(due, "rewound after " + before, x, 5, 4, 3, 2, 1, 0);
            x.rewind();
            x.read();
            x.rewind();
            readsOrigins(due, "rewound again", x, 5, 4, 3, 2, 1, 0);
        }
    }

    @Says("answers `END`, and nothing changes.")
    static void endChangesNothing(Due due) {
        for (int records : new int[] {1, 2, 7, 64}) {
            PolyphaseSort x = afterReads(fed(3, 2, 64, falling(records)), records);
            for (int i = 0; i < 3; i++) {
                due.is("read() of " + records, x.read(), END);
            }
            Twins.alike(due, records + " records, END", () -> afterReads(fed(3, 2, 64, falling(records)), records + 1),
                    () -> afterReads(fed(3, 2, 64, falling(records)), records));
        }
    }

    @Says("The record read last stays the current record.")
    static void theLastRecordStaysCurrent(Due due) {
        PolyphaseSort x = afterReads(fed(3, 2, 8, 30, 20, 10), 3);
        for (int i = 0; i < 3; i++) {
            due.is("read()", x.read(), END);
            due.is("current(KEY)", x.current(KEY), 30);
            due.is("current(VALUE)", x.current(VALUE), 100);
            due.is("current(RUN)", x.current(RUN), 1);
            due.is("current(ORIGIN)", x.current(ORIGIN), 0);
        }
    }

    @Says("With no records at all, every `read()` in stage SORTED answers `END` "
        + "and there is still no current record.")
    static void withoutRecordsEveryReadIsEnd(Due due) {
        for (int tapes = 3; tapes <= 4; tapes++) {
            PolyphaseSort x = finished(new PolyphaseSort(tapes, 2, 8));
            for (int i = 0; i < 4; i++) {
                due.is("read() " + i, x.read(), END);
                noCurrent(due, "read() " + i, x);
                if (i == 2) {
                    x.rewind();
                }
            }
            x.clear();
            putAll(x, 3, 2, 1);
            afterReads(x, 2).clear();
            x.finish();
            due.is("read() of a cleared one", x.read(), END);
            noCurrent(due, "a cleared one", x);
        }
    }

    @Says("Otherwise the first record of the result not yet read since then is read and becomes the "
        + "current record; answers `OK`.")
    static void theFirstUnreadRecordBecomesCurrent(Due due) {
        int[] result = resultOf(KEYS);
        for (int read = 0; read < KEYS.length; read++) {
            PolyphaseSort x = afterReads(fed(4, 3, 16, KEYS), read);
            due.is("read() " + read, x.read(), OK);
            due.is("current(ORIGIN) " + read, x.current(ORIGIN), result[read]);
            due.is("current(KEY) " + read, x.current(KEY), KEYS[result[read]]);
            due.is("current(VALUE) " + read, x.current(VALUE), 100 - result[read]);
        }
    }

    @Says("Stage, level, output tape, the counts of runs on the tapes, `count()`, `runs()` and the "
        + "fields of records do not change.")
    static void nothingElseChanges(Due due) {
        for (Situation situation : Situation.sorted()) {
            PolyphaseSort x = situation.made();
            for (int i = 0; i < 70; i++) {
                x.read();
            }
            same(due, situation.name(), x, situation.made(), Getter.COUNT, Getter.FIELD, Getter.FRONT,
                    Getter.RUNS, Getter.LEVEL, Getter.RUNS_ON, Getter.OUTPUT_TAPE);
            due.is(situation.name() + ": rewind() is still allowed", x.rewind(), OK);
        }
    }
}
