/** Tests of promise 3: finish. */
final class Promise03 extends Part {
    private static final int MOST_RUNS = 32;

    @Says("`finish()` ends the input.")
    static void endsTheInput(Due due) {
        PolyphaseSort x = finished(fed(3, 2, 8, 3, 2, 1));
        due.is("put() after it", x.put(4, 4), WRONG);
        due.is("count() after it", x.count(), 3);
        PolyphaseSort y = finished(fed(3, 2, 8, 1, 2, 3));
        due.is("put() after it with one run", y.put(4, 4), WRONG);
        due.is("count() after it with one run", y.count(), 3);
    }

    @Says("If the stage is not FEED: answers `WRONG`, nothing changes.")
    static void isWrongOutsideFeed(Due due) {
        refused(due, "finish()", Situation.notFeed(), WRONG, x -> x.finish());
    }

    @Says({"Perfect distributions. The perfect distribution of level n is a row of T-1 numbers a(1) to a(T-1).",
        "From the row a of level n the row b of level n+1 is b(j) = a(1) + a(j+1) for j = 1 to T-1, "
        + "where a(T) counts as 0."})
    static void eachRowComesFromTheRowBefore(Due due) {
        for (int tapes = 3; tapes <= 4; tapes++) {
            int[] before = new int[tapes];
            before[0] = 1;
            for (int level = 1; total(rows(tapes)[level - 1]) < MOST_RUNS; level++) {
                PolyphaseSort x = finished(withRuns(tapes, total(rows(tapes)[level - 1]) + 1));
                due.is("level()", x.level(), level);
                int[] row = new int[tapes];
                for (int j = 0; j < tapes - 1; j++) {
                    row[j] = x.runsOn(j);
                    due.is("b(" + (j + 1) + ") of level " + level, row[j], before[0] + before[j + 1]);
                }
                before = row;
            }
        }
    }

    @Says("Level 0 is 1 followed by zeros.")
    static void levelZeroIsOneAndZeros(Due due) {
        hasRuns(due, "T = 3", finished(withRuns(3, 1)), 1, 0, 0);
        hasRuns(due, "T = 4", finished(withRuns(4, 1)), 1, 0, 0, 0);
    }

    @Says("T = 3: (1,0) (1,1) (2,1) (3,2) (5,3) (8,5) (13,8) (21,13) and so on")
    static void theRowsForThreeTapes(Due due) {
        hasRow(due, 3, 1, 1, 0);
        hasRow(due, 3, 2, 1, 1);
        hasRow(due, 3, 3, 2, 1);
        hasRow(due, 3, 5, 3, 2);
        hasRow(due, 3, 8, 5, 3);
        hasRow(due, 3, 13, 8, 5);
        hasRow(due, 3, 21, 13, 8);
        hasRow(due, 3, 32, 21, 13);
    }

    @Says("T = 4: (1,0,0) (1,1,1) (2,2,1) (4,3,2) (7,6,4) (13,11,7) (24,20,13) and so on")
    static void theRowsForFourTapes(Due due) {
        hasRow(due, 4, 1, 1, 0, 0);
        hasRow(due, 4, 3, 1, 1, 1);
        hasRow(due, 4, 5, 2, 2, 1);
        hasRow(due, 4, 9, 4, 3, 2);
        hasRow(due, 4, 17, 7, 6, 4);
        hasRow(due, 4, 31, 13, 11, 7);
        hasRow(due, 4, 32, 24, 20, 13);
    }

    private static void hasRow(Due due, int tapes, int runs, int... row) {
        hasRuns(due, runs + " runs", finished(withRuns(tapes, runs)), row);
    }

    @Says({"The total of a level is the sum of its row.",
        "The level becomes the least n >= 0 whose total is at least `runs()`."})
    static void theLevelIsTheLeastWithRoom(Due due) {
        for (int tapes = 3; tapes <= 4; tapes++) {
            for (int runs = 0; runs <= MOST_RUNS; runs++) {
                PolyphaseSort x = withRuns(tapes, runs);
                due.is("runs()", x.runs(), runs);
                x.finish();
                due.is("level() of " + runs + " runs", x.level(), levelFor(tapes, runs));
            }
        }
    }

    @Says("Levels above 7 (T = 3) or 6 (T = 4) are never needed, as there are never more than 32 runs.")
    static void noMoreThanThirtyTwoRuns(Due due) {
        for (int tapes = 3; tapes <= 4; tapes++) {
            PolyphaseSort x = fed(tapes, 2, 64, falling(64));
            due.is("runs() of 64 falling keys", x.runs(), 32);
            x.finish();
            due.is("level()", x.level(), tapes == 3 ? 7 : 6);
            PolyphaseSort zigzag = new PolyphaseSort(tapes, 2, 64);
            for (int i = 0; i < 64; i++) {
                zigzag.put(i % 2 == 0 ? MIN : MAX - i, 0);
            }
            due.holds("64 keys up and down give no more than 32 runs", zigzag.runs() <= 32);
            zigzag.finish();
            due.holds("nor a higher level", zigzag.level() <= x.level());
        }
    }

    @Says("In stage FEED, `finish()` does the following:")
    static void isCarriedOutAnywhereInFeed(Due due) {
        for (Situation situation : Situation.feed()) {
            PolyphaseSort x = situation.made();
            int runs = x.runs();
            due.is(situation.name() + ": finish()", x.finish(), runs > 1 ? OK : DONE);
        }
        for (Situation situation : Situation.full()) {
            due.is(situation.name() + ": finish()", situation.made().finish(), OK);
        }
    }

    @Says("The workspace becomes empty, so `front()` is `NONE` from then on.")
    static void theWorkspaceBecomesEmpty(Due due) {
        for (int cells = 2; cells <= 8; cells++) {
            for (int records = 0; records <= 20; records++) {
                PolyphaseSort x = finished(fed(3, cells, 20, falling(records)));
                due.is("front()", x.front(), NONE);
                for (int i = 0; i < 100 && x.level() > 0; i++) {
                    x.mergeOne();
                    due.is("front() while merging", x.front(), NONE);
                }
                x.read();
                due.is("front() while reading", x.front(), NONE);
            }
        }
    }

    @Says("No run number changes.")
    static void noRunNumberChanges(Due due) {
        hasRunNumbers(due, "falling", finished(fed(3, 2, 8, falling(7))), 1, 1, 2, 2, 3, 3, 4);
        hasRunNumbers(due, "fewer than W", finished(fed(4, 8, 8, falling(7))), 1, 1, 1, 1, 1, 1, 1);
        hasRunNumbers(due, "two runs in the workspace", finished(fed(4, 3, 8, 5, 6, 7, 1)), 1, 1, 1, 2);
    }

    @Says("So it is 0 if there are 0 or 1 runs.")
    static void theLevelIsZeroForNoRunAndForOne(Due due) {
        for (int tapes = 3; tapes <= 4; tapes++) {
            due.is("level() of no runs", finished(withRuns(tapes, 0)).level(), 0);
            due.is("level() of one run", finished(withRuns(tapes, 1)).level(), 0);
            due.is("level() of one record", finished(fed(tapes, 2, 8, 4)).level(), 0);
            due.is("level() of one run of 64", finished(fed(tapes, 2, 64, rising(64))).level(), 0);
            due.is("level() of two runs", finished(withRuns(tapes, 2)).level(), 1);
        }
    }

    @Says("Tape j-1 then holds a(j) runs, for j = 1 to T-1, where a is the perfect distribution of that level.")
    static void theTapesHoldThePerfectDistribution(Due due) {
        for (int tapes = 3; tapes <= 4; tapes++) {
            for (int runs = 0; runs <= MOST_RUNS; runs++) {
                PolyphaseSort x = finished(withRuns(tapes, runs));
                hasRuns(due, runs + " runs", x, rows(tapes)[levelFor(tapes, runs)]);
            }
        }
    }

    @Says("Tape T-1 holds 0 runs.")
    static void theLastTapeHoldsNoRun(Due due) {
        for (int tapes = 3; tapes <= 4; tapes++) {
            for (int runs = 0; runs <= MOST_RUNS; runs++) {
                PolyphaseSort x = finished(withRuns(tapes, runs));
                due.is("runsOn(T-1) of " + runs + " runs", x.runsOn(tapes - 1), 0);
            }
        }
    }

    @Says("With no records at all, the one run on tape 0 is a dummy.")
    static void withoutRecordsThereIsOneDummy(Due due) {
        for (int tapes = 3; tapes <= 4; tapes++) {
            PolyphaseSort x = new PolyphaseSort(tapes, 2, 8);
            withoutRecords(due, "new", x);
            x.clear();
            putAll(x, 3, 2, 1);
            sorted(x);
            x.clear();
            withoutRecords(due, "cleared", x);
        }
    }

    private static void withoutRecords(Due due, String name, PolyphaseSort x) {
        due.is(name + ": finish()", x.finish(), DONE);
        due.is(name + ": runsOn(0)", x.runsOn(0), 1);
        due.is(name + ": runsOn(1)", x.runsOn(1), 0);
        due.is(name + ": runsOn(2)", x.runsOn(2), 0);
        due.is(name + ": runs()", x.runs(), 0);
        due.is(name + ": read()", x.read(), END);
    }

    @Says("If the level is 0: the stage becomes SORTED, the output tape is tape 0,")
    static void atLevelZeroTheStageIsSorted(Due due) {
        for (int tapes = 3; tapes <= 4; tapes++) {
            for (int runs = 0; runs <= 1; runs++) {
                PolyphaseSort x = finished(withRuns(tapes, runs));
                due.is("outputTape()", x.outputTape(), 0);
                due.is("mergeOne()", x.mergeOne(), WRONG);
                due.is("rewind()", x.rewind(), OK);
            }
        }
    }

    @Says("nothing has been read yet,")
    static void atLevelZeroNothingHasBeenRead(Due due) {
        PolyphaseSort x = new PolyphaseSort(3, 4, 8);
        for (int round = 0; round < 3; round++) {
            putAll(x, 2, 9, 5);
            x.finish();
            noCurrent(due, "round " + round, x);
            readsOrigins(due, "round " + round, x, 0, 2, 1);
            x.clear();
        }
    }

    @Says("and the answer is `DONE`.")
    static void atLevelZeroTheAnswerIsDone(Due due) {
        for (int tapes = 3; tapes <= 4; tapes++) {
            due.is("finish() of no records", withRuns(tapes, 0).finish(), DONE);
            due.is("finish() of one record", fed(tapes, 2, 8, 1).finish(), DONE);
            due.is("finish() of one run", withRuns(tapes, 1).finish(), DONE);
            due.is("finish() of one long run", fed(tapes, 2, 64, rising(64)).finish(), DONE);
        }
    }

    @Says("Otherwise: the stage becomes MERGE, the output tape is tape T-1,")
    static void aboveLevelZeroTheStageIsMerge(Due due) {
        for (int tapes = 3; tapes <= 4; tapes++) {
            for (int runs = 2; runs <= MOST_RUNS; runs++) {
                PolyphaseSort x = finished(withRuns(tapes, runs));
                due.is("outputTape()", x.outputTape(), tapes - 1);
                due.is("read()", x.read(), WRONG);
                due.is("mergeOne() WRONG", x.mergeOne() == WRONG ? 1 : 0, 0);
            }
        }
    }

    @Says("and the answer is `OK`.")
    static void aboveLevelZeroTheAnswerIsOk(Due due) {
        for (int tapes = 3; tapes <= 4; tapes++) {
            for (int runs = 2; runs <= MOST_RUNS; runs++) {
                due.is("finish() of " + runs + " runs", withRuns(tapes, runs).finish(), OK);
            }
        }
    }

    @Says("`count()`, `runs()` and all fields of all records stay as they were.")
    static void countRunsAndFieldsStay(Due due) {
        for (Situation situation : Situation.feed()) {
            staysThrough(due, situation);
        }
        for (Situation situation : Situation.full()) {
            staysThrough(due, situation);
        }
    }

    private static void staysThrough(Due due, Situation situation) {
        PolyphaseSort x = finished(situation.made());
        same(due, situation.name(), x, situation.made(), Getter.COUNT, Getter.RUNS, Getter.FIELD);
    }
}
