import java.util.Arrays;

/** Tests of promise 4: mergeOne. */
final class Promise04 extends Part {
    private static final int MOST_RUNS = 32;

    /** How things stood before a call of mergeOne(). */
    private record Before(int tapes, int output, int level, int[] counts) {
        static Before of(int tapes, PolyphaseSort x) {
            int[] counts = new int[tapes];
            for (int tape = 0; tape < tapes; tape++) {
                counts[tape] = x.runsOn(tape);
            }
            return new Before(tapes, x.outputTape(), x.level(), counts);
        }

        /** (f + T - 1) % T, said another way. */
        int tapeBelowOutput() {
            return output == 0 ? tapes - 1 : output - 1;
        }

        boolean endsThePhase() {
            return counts[tapeBelowOutput()] == 1;
        }
    }

    private interface Look {
        void at(String name, Before before, int answer, PolyphaseSort after);
    }

    /** Looks at each merge there can be, from two runs to thirty-two, on three tapes and on four. */
    private static void everyMerge(Look look) {
        for (int tapes = 3; tapes <= 4; tapes++) {
            for (int runs = 2; runs <= MOST_RUNS; runs++) {
                PolyphaseSort x = finished(withRuns(tapes, runs));
                for (int i = 0; i < 100 && x.level() > 0; i++) {
                    Before before = Before.of(tapes, x);
                    int answer = x.mergeOne();
                    look.at("T = " + tapes + ", " + runs + " runs, merge " + i, before, answer, x);
                }
            }
        }
    }

    @Says("`mergeOne()` merges one run.")
    static void mergesOneRunAtATime(Due due) {
        answers(due, finished(withRuns(3, 2)), DONE);
        answers(due, finished(withRuns(3, 5)), OK, PHASE, PHASE, DONE);
        answers(due, finished(withRuns(3, 8)), OK, OK, PHASE, OK, PHASE, PHASE, DONE);
        answers(due, finished(withRuns(4, 2)), DONE);
        answers(due, finished(withRuns(4, 9)), OK, PHASE, PHASE, DONE);
        answers(due, finished(withRuns(4, 17)), OK, OK, OK, PHASE, OK, PHASE, PHASE, DONE);
    }

    private static void answers(Due due, PolyphaseSort x, int... wanted) {
        String name = Arrays.toString(wanted);
        for (int i = 0; i < wanted.length; i++) {
            due.is(name + ": mergeOne() " + i, x.mergeOne(), wanted[i]);
        }
        due.is(name + ": mergeOne() after the last", x.mergeOne(), WRONG);
    }

    @Says("If the stage is not MERGE: answers `WRONG`, nothing changes.")
    static void isWrongOutsideMerge(Due due) {
        refused(due, "mergeOne()", Situation.notMerge(), WRONG, x -> x.mergeOne());
    }

    @Says({"Otherwise let f be the output tape.",
        "One run is taken from each of the other T-1 tapes (each has at least one),"})
    static void everyOtherTapeHasARun(Due due) {
        everyMerge((name, before, answer, after) -> {
            for (int tape = 0; tape < before.tapes(); tape++) {
                if (tape != before.output()) {
                    due.holds(name + ": tape " + tape + " has a run", before.counts()[tape] >= 1);
                }
            }
        });
    }

    @Says("and they are merged to one run that is appended to tape f:")
    static void everyRunReachesTheResult(Due due) {
        int[][] shapes = {falling(64), zigzag(64), steps(64)};
        for (int tapes = 3; tapes <= 4; tapes++) {
            for (int[] all : shapes) {
                for (int records = 0; records <= 64; records++) {
                    int[] keys = Arrays.copyOf(all, records);
                    reachesTheResult(due, fed(tapes, 2, 64, keys), keys);
                    reachesTheResult(due, fedWithOneValue(tapes, keys), keys);
                }
            }
        }
    }

    private static void reachesTheResult(Due due, PolyphaseSort x, int[] keys) {
        x.finish();
        for (int i = 0; i < 100 && x.level() > 0; i++) {
            x.mergeOne();
        }
        readsOrigins(due, keys.length + " records", x, resultOf(keys));
    }

    private static int[] zigzag(int number) {
        int[] keys = new int[number];
        for (int i = 0; i < number; i++) {
            keys[i] = i % 2 == 0 ? -i : i % 3;
        }
        return keys;
    }

    private static int[] steps(int number) {
        int[] keys = new int[number];
        for (int i = 0; i < number; i++) {
            keys[i] = i * 37 % 11 - i / 9;
        }
        return keys;
    }

    @Says("the count of f grows by 1,")
    static void theOutputTapeGainsARun(Due due) {
        everyMerge((name, before, answer, after) -> {
            int f = before.output();
            due.is(name + ": runsOn(f)", after.runsOn(f), before.counts()[f] + 1);
        });
    }

    @Says("each other count falls by 1.")
    static void everyOtherTapeLosesARun(Due due) {
        everyMerge((name, before, answer, after) -> {
            for (int tape = 0; tape < before.tapes(); tape++) {
                if (tape != before.output()) {
                    due.is(name + ": runsOn(" + tape + ")", after.runsOn(tape), before.counts()[tape] - 1);
                }
            }
        });
    }

    @Says("Then: If tape (f + T - 1) % T still holds a run: the answer is `OK`.")
    static void theAnswerIsOkWhileTheTapeBelowHasRuns(Due due) {
        everyMerge((name, before, answer, after) ->
                due.is(name + ": OK", answer == OK ? 1 : 0, before.endsThePhase() ? 0 : 1));
    }

    @Says("Stage, level and output tape stay as they were.")
    static void amidAPhaseStageLevelAndOutputStay(Due due) {
        everyMerge((name, before, answer, after) -> {
            if (!before.endsThePhase()) {
                due.is(name + ": level()", after.level(), before.level());
                due.is(name + ": outputTape()", after.outputTape(), before.output());
                due.is(name + ": read()", after.read(), WRONG);
                due.is(name + ": put()", after.put(1, 1), WRONG);
            }
        });
    }

    @Says("Otherwise the phase is complete and the level falls by 1.")
    static void theLevelFallsWithEachPhase(Due due) {
        everyMerge((name, before, answer, after) -> {
            if (before.endsThePhase()) {
                due.is(name + ": level()", after.level(), before.level() - 1);
                startsAPhase(due, name, before.tapes(), after);
            }
        });
    }

    /** At the start of a phase the tapes after the output tape hold the row of the level, in a circle. */
    private static void startsAPhase(Due due, String name, int tapes, PolyphaseSort x) {
        if (x.level() <= 0) {
            return;
        }
        int[] row = rows(tapes)[x.level()];
        for (int j = 1; j < tapes; j++) {
            int tape = (x.outputTape() + j) % tapes;
            due.is(name + ": runsOn(" + tape + ") at the start of a phase", x.runsOn(tape), row[j - 1]);
        }
    }

    @Says("If the level is now 0: the stage becomes SORTED, the output tape stays f,")
    static void atLevelZeroTheStageIsSorted(Due due) {
        everyMerge((name, before, answer, after) -> {
            if (before.endsThePhase() && before.level() == 1) {
                due.is(name + ": level()", after.level(), 0);
                due.is(name + ": outputTape()", after.outputTape(), before.output());
                due.is(name + ": mergeOne()", after.mergeOne(), WRONG);
                due.is(name + ": put()", after.put(1, 1), WRONG);
                due.is(name + ": rewind()", after.rewind(), OK);
            }
        });
    }

    @Says("nothing has been read yet,")
    static void atLevelZeroNothingHasBeenRead(Due due) {
        everyMerge((name, before, answer, after) -> {
            if (before.level() == 1 && before.endsThePhase()) {
                noCurrent(due, name, after);
                due.is(name + ": the first read()", after.read(), OK);
                due.is(name + ": the least record", after.current(ORIGIN), after.count() - 1);
            }
        });
    }

    @Says("nothing has been read yet,")
    static void nothingHasBeenReadInALaterRoundEither(Due due) {
        PolyphaseSort x = new PolyphaseSort(3, 2, 8);
        for (int round = 0; round < 3; round++) {
            putAll(x, falling(6));
            sorted(x);
            noCurrent(due, "round " + round, x);
            readsOrigins(due, "round " + round, x, 5, 4, 3, 2, 1, 0);
            x.clear();
        }
    }

    @Says("and the answer is `DONE`.")
    static void atLevelZeroTheAnswerIsDone(Due due) {
        everyMerge((name, before, answer, after) ->
                due.is(name + ": DONE", answer == DONE ? 1 : 0, after.level() == 0 ? 1 : 0));
    }

    @Says("Tape f then holds one run and every other tape holds 0.")
    static void oneRunIsLeftAtTheEnd(Due due) {
        everyMerge((name, before, answer, after) -> {
            if (before.level() == 1 && before.endsThePhase()) {
                for (int tape = 0; tape < before.tapes(); tape++) {
                    due.is(name + ": runsOn(" + tape + ")", after.runsOn(tape), tape == before.output() ? 1 : 0);
                }
            }
        });
    }

    @Says("If the level is above 0: the output tape becomes (f + T - 1) % T,")
    static void theOutputTapeMovesOneDown(Due due) {
        everyMerge((name, before, answer, after) -> {
            if (before.endsThePhase() && before.level() > 1) {
                due.is(name + ": outputTape()", after.outputTape(), before.tapeBelowOutput());
            }
        });
    }

    @Says("the output tape becomes (f + T - 1) % T,")
    static void theOutputTapeWrapsAroundFromZero(Due due) {
        outputs(due, finished(withRuns(3, 32)), 2, 1, 0, 2, 1, 0, 2);
        outputs(due, finished(withRuns(4, 32)), 3, 2, 1, 0, 3, 2);
    }

    private static void outputs(Due due, PolyphaseSort x, int... tapes) {
        for (int phase = 0; phase < tapes.length; phase++) {
            due.is("outputTape() in phase " + phase, x.outputTape(), tapes[phase]);
            for (int i = 0; i < 100 && x.mergeOne() == OK; i++) {
                due.is("outputTape() amid phase " + phase, x.outputTape(), tapes[phase]);
            }
        }
        due.is("level() after the last phase", x.level(), 0);
        due.is("outputTape() after the last phase", x.outputTape(), tapes[tapes.length - 1]);
    }

    @Says("the stage stays MERGE, and the answer is `PHASE`.")
    static void betweenPhasesTheAnswerIsPhase(Due due) {
        everyMerge((name, before, answer, after) -> {
            boolean between = before.endsThePhase() && before.level() > 1;
            due.is(name + ": PHASE", answer == PHASE ? 1 : 0, between ? 1 : 0);
            if (between) {
                due.is(name + ": read()", after.read(), WRONG);
                due.is(name + ": finish()", after.finish(), WRONG);
                noCurrent(due, name, after);
            }
        });
    }

    @Says("In every case `count()`, `runs()` and all fields of all records, run numbers included, "
        + "stay as they were.")
    static void countRunsAndFieldsStay(Due due) {
        for (Situation situation : Situation.merge()) {
            PolyphaseSort x = situation.made();
            for (int i = 0; i < 100 && x.level() > 0; i++) {
                x.mergeOne();
                same(due, situation.name() + ", merge " + i, x, situation.made(),
                        Getter.COUNT, Getter.RUNS, Getter.FIELD);
            }
        }
    }
}
