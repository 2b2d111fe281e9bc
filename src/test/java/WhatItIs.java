import java.util.List;

/** Tests of 'What it is'. */
final class WhatItIs extends Part {
    @Says({"`PolyphaseSort` is an external sort on simulated one-way tapes.",
        "Records are fed in one by one, formed into runs by replacement selection in a small workspace, "
        + "spread together with dummy (empty) runs over three or four tapes, merged phase by phase by "
        + "polyphase merging, and read back in order from the last tape."})
    static void sortsFromTheFirstPutToTheLastRead(Due due) {
        int[] keys = {7, 6, 5, 4, 3, 2, 1};
        for (int tapes = 3; tapes <= 4; tapes++) {
            PolyphaseSort x = fed(tapes, 2, 16, keys);
            due.is("runs()", x.runs(), 4);
            due.is("finish()", x.finish(), OK);
            due.is("runs with a dummy", x.runsOn(0) + x.runsOn(1) + (tapes == 4 ? x.runsOn(2) : 0), 5);
            for (int level = x.level(); level > 1; level--) {
                due.is("mergePhase() at level " + level, x.mergePhase(), PHASE);
            }
            due.is("the last mergePhase()", x.mergePhase(), DONE);
            readsOrigins(due, "T = " + tapes, x, 6, 5, 4, 3, 2, 1, 0);
        }
    }

    @Says("The sort is stable.")
    static void equalKeysKeepTheirOrder(Due due) {
        int[] keys = new int[64];
        for (int i = 0; i < 64; i++) {
            keys[i] = 3 - i % 4;
        }
        for (int tapes = 3; tapes <= 4; tapes++) {
            for (int cells = 2; cells <= 8; cells++) {
                PolyphaseSort x = sorted(fed(tapes, cells, 64, keys));
                readsOrigins(due, "T = " + tapes + ", W = " + cells, x, resultOf(keys));
            }
        }
    }

    @Says("Records. A record has a KEY and a VALUE (any ints),")
    static void keyAndValueMayBeAnyInts(Due due) {
        for (int key : EXTREMES) {
            for (int value : EXTREMES) {
                PolyphaseSort x = new PolyphaseSort(3, 2, 8);
                due.is("put(" + key + ", " + value + ")", x.put(key, value), OK);
                due.is("its KEY", x.field(0, KEY), key);
                due.is("its VALUE", x.field(0, VALUE), value);
                x.finish();
                x.read();
                due.is("its KEY when read", x.current(KEY), key);
                due.is("its VALUE when read", x.current(VALUE), value);
            }
        }
    }

    @Says("an ORIGIN (its arrival number: 0 for the first record accepted since the object was made or "
        + "last cleared, then 1, 2, and so on)")
    static void originsCountTheAcceptedRecordsFromZero(Due due) {
        PolyphaseSort x = fed(3, 2, 8, 9, 1, 5, 3, 7, 2, 8, 6);
        x.put(0, 0);
        readsOrigins(due, "made", sorted(x), 1, 5, 3, 2, 7, 4, 6, 0);
        x.clear();
        putAll(x, 2, 3, 1);
        readsOrigins(due, "cleared", sorted(x), 2, 0, 1);
    }

    @Says("and a RUN (a run number, 1 or more, given when the record arrives and never changed).")
    static void runNumbersStayAsGiven(Due due) {
        int[] numbers = {1, 1, 2, 2, 3, 3, 4};
        PolyphaseSort x = new PolyphaseSort(4, 2, 8);
        for (int i = 0; i < 7; i++) {
            x.put(-i, 0);
            due.is("run given to " + i, x.field(i, RUN), numbers[i]);
        }
        hasRunNumbers(due, "fed", x, numbers);
        hasRunNumbers(due, "finished", finished(x), numbers);
        for (int i = 0; i < 100 && x.level() > 0; i++) {
            x.mergeOne();
            hasRunNumbers(due, "merged", x, numbers);
        }
        for (int i = 6; i >= 0; i--) {
            x.read();
            due.is("run of " + i + " when read", x.current(RUN), numbers[i]);
            hasRunNumbers(due, "read", x, numbers);
        }
    }

    @Says("Keys are compared as signed ints over the whole int range, from -2147483648 to 2147483647.")
    static void keysAreComparedOverTheWholeRange(Due due) {
        for (int low : EXTREMES) {
            for (int high : EXTREMES) {
                if (low < high) {
                    comparedEverywhere(due, low, high);
                }
            }
        }
    }

    private static void comparedEverywhere(Due due, int low, int high) {
        String name = low + " and " + high;
        PolyphaseSort x = fed(3, 2, 8, high, low);
        due.is(name + ": front()", x.front(), 1);
        x.put(high, 0);
        due.is(name + ": run of the greater key", x.field(2, RUN), 1);
        due.is(name + ": front() of equal keys", x.front(), 0);
        x.put(low, 0);
        due.is(name + ": run of the lesser key", x.field(3, RUN), 2);
        x.put(low, 0);
        due.is(name + ": run of the lesser key again", x.field(4, RUN), 2);
        sorted(x);
        readsOrigins(due, name, x, 1, 3, 4, 0, 2);
        x.rewind();
        due.is(name + ": readFrom() the greater", x.readFrom(high), OK);
        due.is(name + ": origin found", x.current(ORIGIN), 0);
    }

    @Says("Stages. The object is always in exactly one stage:")
    static void everyPointOfItsLifeIsInOneStage(Due due) {
        inOneStage(due, Situation.feed(), OK, WRONG, WRONG);
        inOneStage(due, Situation.full(), FULL, WRONG, WRONG);
        inOneStage(due, Situation.merge(), WRONG, OK, WRONG);
        inOneStage(due, Situation.sorted(), WRONG, WRONG, OK);
    }

    private static void inOneStage(Due due, List<Situation> all, int put, int merge, int rewind) {
        for (Situation situation : all) {
            String name = situation.name();
            due.is(name + ": put()", situation.made().put(1, 1), put);
            due.is(name + ": finish() WRONG", situation.made().finish() == WRONG ? 1 : 0, put == WRONG ? 1 : 0);
            due.is(name + ": mergeOne() WRONG", situation.made().mergeOne() == WRONG ? 1 : 0, merge);
            due.is(name + ": mergePhase() WRONG", situation.made().mergePhase() == WRONG ? 1 : 0, merge);
            due.is(name + ": read() WRONG", situation.made().read() == WRONG ? 1 : 0, rewind);
            due.is(name + ": readFrom() WRONG", situation.made().readFrom(0) == WRONG ? 1 : 0, rewind);
            due.is(name + ": rewind()", situation.made().rewind(), rewind);
        }
    }

    @Says("FEED: at first and after `clear()`. Records are accepted.")
    static void feedsAtFirstAndAfterClear(Due due) {
        PolyphaseSort x = new PolyphaseSort(3, 2, 8);
        due.is("put() at first", x.put(1, 1), OK);
        for (Situation situation : Situation.any()) {
            x = situation.made();
            x.clear();
            due.is(situation.name() + ": put() after clear()", x.put(1, 1), OK);
        }
    }

    @Says("MERGE: after `finish()`, while `level()` is above 0.")
    static void mergesWhileTheLevelIsAboveZero(Due due) {
        for (int tapes = 3; tapes <= 4; tapes++) {
            for (int runs = 0; runs <= 32; runs++) {
                PolyphaseSort x = finished(withRuns(tapes, runs));
                for (int i = 0; i < 100 && x.level() > 0; i++) {
                    due.is("read() above level 0", x.read(), WRONG);
                    due.is("put() above level 0", x.put(1, 1), WRONG);
                    due.is("mergeOne() WRONG above level 0", x.mergeOne() == WRONG ? 1 : 0, 0);
                }
                due.is("mergeOne() at level 0", x.mergeOne(), WRONG);
            }
        }
    }

    @Says("SORTED: after `finish()`, once `level()` is 0. The result can be read.")
    static void readsOnceTheLevelIsZero(Due due) {
        for (int tapes = 3; tapes <= 4; tapes++) {
            for (int runs = 0; runs <= 32; runs++) {
                PolyphaseSort x = sorted(withRuns(tapes, runs));
                due.is("level()", x.level(), 0);
                due.is("put() at level 0", x.put(1, 1), WRONG);
                readsOrigins(due, runs + " runs", x, resultOf(falling(2 * runs)));
            }
        }
    }

    @Says({"A call that answers `WRONG`", "changes nothing."})
    static void wrongChangesNothing(Due due) {
        refused(due, "put()", Situation.notFeed(), WRONG, x -> x.put(MIN, 9));
        refused(due, "finish()", Situation.notFeed(), WRONG, x -> x.finish());
        refused(due, "mergeOne()", Situation.notMerge(), WRONG, x -> x.mergeOne());
        refused(due, "mergePhase()", Situation.notMerge(), WRONG, x -> x.mergePhase());
        refused(due, "read()", Situation.notSorted(), WRONG, x -> x.read());
        refused(due, "readFrom()", Situation.notSorted(), WRONG, x -> x.readFrom(MAX));
        refused(due, "rewind()", Situation.notSorted(), WRONG, x -> x.rewind());
    }

    @Says({"A call that answers", "or `FULL` changes nothing."})
    static void fullChangesNothing(Due due) {
        refused(due, "put() of the least", Situation.full(), FULL, x -> x.put(MIN, 9));
        refused(due, "put() of the greatest", Situation.full(), FULL, x -> x.put(MAX, 9));
    }

    @Says({"The getters (`count`, `field`, `front`, `runs`, `level`, `runsOn`, `outputTape`, `current`) "
        + "change nothing"})
    static void noGetterChangesAnything(Due due) {
        for (Situation situation : Situation.any()) {
            unchanged(due, situation.name(), () -> asked(situation, Getter.values()), situation::made);
        }
    }

    @Says("and may be called in any stage.")
    static void gettersAnswerInEveryStage(Due due) {
        for (Situation situation : Situation.any()) {
            PolyphaseSort x = situation.made();
            for (int i : EXTREMES) {
                due.is(situation.name() + ": field(" + i + ", " + i + ")", x.field(i, i),
                        i == 0 ? x.field(0, KEY) : i == 1 ? x.field(1, VALUE) : NONE);
                x.current(i);
                x.runsOn(i);
            }
            due.holds(situation.name() + ": count() is 0 to 64", x.count() >= 0 && x.count() <= 64);
            due.holds(situation.name() + ": front() is below count()", x.front() < Math.max(1, x.count()));
            due.holds(situation.name() + ": runs() is 0 to 32", x.runs() >= 0 && x.runs() <= 32);
            due.holds(situation.name() + ": level() is -1 to 7", x.level() >= -1 && x.level() <= 7);
            due.holds(situation.name() + ": outputTape() is -1 to 3", x.outputTape() >= -1 && x.outputTape() <= 3);
        }
    }

    @Says("Letters. T is the number of tapes, W the number of workspace cells. Tapes are numbered 0 to T-1.")
    static void tapesAreNumberedFromZero(Due due) {
        for (int tapes = 3; tapes <= 4; tapes++) {
            PolyphaseSort x = finished(withRuns(tapes, 5));
            for (int tape = -1; tape <= 4; tape++) {
                boolean there = tape >= 0 && tape < tapes;
                due.is("T = " + tapes + ": there is a tape " + tape, x.runsOn(tape) != NONE ? 1 : 0, there ? 1 : 0);
            }
        }
    }

    @Says("Counts of runs on tapes always count the real runs and the dummy runs together.")
    static void dummyRunsAreCounted(Due due) {
        PolyphaseSort x = finished(withRuns(3, 6));
        hasRuns(due, "6 runs and 2 dummies", x, 5, 3, 0);
        x.mergeOne();
        hasRuns(due, "after one merge", x, 4, 2, 1);
        x.mergePhase();
        hasRuns(due, "after a phase", x, 2, 0, 3);
        hasRuns(due, "one dummy alone", finished(withRuns(4, 0)), 1, 0, 0, 0);
    }

    @Says("Public constants.")
    static void constantsHaveTheirValues(Due due) {
        due.is("OK", PolyphaseSort.OK, 0);
        due.is("WRONG", PolyphaseSort.WRONG, 1);
        due.is("FULL", PolyphaseSort.FULL, 2);
        due.is("END", PolyphaseSort.END, 3);
        due.is("PHASE", PolyphaseSort.PHASE, 4);
        due.is("DONE", PolyphaseSort.DONE, 5);
        due.is("NONE", PolyphaseSort.NONE, -1);
        due.is("KEY", PolyphaseSort.KEY, 0);
        due.is("VALUE", PolyphaseSort.VALUE, 1);
        due.is("RUN", PolyphaseSort.RUN, 2);
        due.is("ORIGIN", PolyphaseSort.ORIGIN, 3);
    }
}
