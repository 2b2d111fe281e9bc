import java.util.function.ToIntFunction;

/** Tests of promise 5: mergePhase. */
final class Promise05 extends Part {
    private static final int MOST_RUNS = 32;

    @Says("`mergePhase()` completes the present phase,")
    static void completesThePhase(Due due) {
        PolyphaseSort x = finished(withRuns(3, 13));
        hasRuns(due, "level 5", x, 8, 5, 0);
        x.mergePhase();
        hasRuns(due, "level 4", x, 3, 0, 5);
        x.mergePhase();
        hasRuns(due, "level 3", x, 0, 3, 2);
        x.mergePhase();
        hasRuns(due, "level 2", x, 2, 1, 0);
        PolyphaseSort y = finished(withRuns(4, 32));
        hasRuns(due, "level 6", y, 24, 20, 13, 0);
        y.mergePhase();
        hasRuns(due, "level 5", y, 11, 7, 0, 13);
        due.is("level()", y.level(), 5);
        due.is("outputTape()", y.outputTape(), 2);
    }

    @Says("also one that was begun by `mergeOne()`.")
    static void completesAPhaseThatWasBegun(Due due) {
        for (int tapes = 3; tapes <= 4; tapes++) {
            for (int begun = 1; begun < 13; begun++) {
                PolyphaseSort x = finished(withRuns(tapes, 32));
                for (int i = 0; i < begun; i++) {
                    due.is("mergeOne() " + i, x.mergeOne(), OK);
                }
                due.is("mergePhase() after " + begun, x.mergePhase(), PHASE);
                int times = begun;
                int number = tapes;
                Twins.alike(due, "T = " + tapes + ", begun by " + begun,
                        () -> phaseBegunBy(number, times), () -> phaseBegunBy(number, 0));
            }
        }
    }

    private static PolyphaseSort phaseBegunBy(int tapes, int merges) {
        PolyphaseSort x = finished(withRuns(tapes, 32));
        for (int i = 0; i < merges; i++) {
            x.mergeOne();
        }
        x.mergePhase();
        return x;
    }

    @Says("If the stage is not MERGE: answers `WRONG`, nothing changes.")
    static void isWrongOutsideMerge(Due due) {
        refused(due, "mergePhase()", Situation.notMerge(), WRONG, x -> x.mergePhase());
    }

    @Says({"Otherwise it is the same, in its effects, as calling `mergeOne()` again and again",
        "until it answers something other than `OK`."})
    static void isTheSameAsMergeOneOverAndOver(Due due) {
        for (int tapes = 3; tapes <= 4; tapes++) {
            for (int runs = 2; runs <= MOST_RUNS; runs++) {
                for (int phases = 1; phases <= levelFor(tapes, runs); phases++) {
                    samePhases(due, tapes, runs, phases);
                }
            }
        }
    }

    private static void samePhases(Due due, int tapes, int runs, int phases) {
        String name = "T = " + tapes + ", " + runs + " runs, " + phases + " phases";
        PolyphaseSort whole = finished(withRuns(tapes, runs));
        PolyphaseSort single = finished(withRuns(tapes, runs));
        for (int i = 0; i < phases; i++) {
            due.is(name, whole.mergePhase(), mergeOnes(single));
        }
        Twins.alike(due, name, () -> afterPhases(tapes, runs, phases, PolyphaseSort::mergePhase),
                () -> afterPhases(tapes, runs, phases, Promise05::mergeOnes));
    }

    private static PolyphaseSort afterPhases(int tapes, int runs, int phases, ToIntFunction<PolyphaseSort> how) {
        PolyphaseSort x = finished(withRuns(tapes, runs));
        for (int i = 0; i < phases; i++) {
            how.applyAsInt(x);
        }
        return x;
    }

    private static int mergeOnes(PolyphaseSort x) {
        int answer = x.mergeOne();
        for (int i = 0; i < 100 && answer == OK; i++) {
            answer = x.mergeOne();
        }
        return answer;
    }

    @Says("(at least once)")
    static void mergesAtLeastOnce(Due due) {
        for (int tapes = 3; tapes <= 4; tapes++) {
            PolyphaseSort x = finished(withRuns(tapes, 5));
            for (int i = 0; i < 100 && x.level() > 1; i++) {
                int level = x.level();
                for (int j = 0; j < 100 && x.mergeOne() == OK; j++) {
                    due.is("level() amid a phase", x.level(), level);
                }
                due.is("level() between the phases", x.level(), level - 1);
                int output = x.outputTape();
                due.is("mergePhase() there", x.mergePhase(), level == 2 ? DONE : PHASE);
                due.is("level() a phase on", x.level(), level - 2);
                due.holds("runs were merged to tape " + output, x.runsOn(output) > 0);
            }
        }
    }

    @Says("That answer, `PHASE` or `DONE`, is the answer.")
    static void answersPhaseOrDone(Due due) {
        for (int tapes = 3; tapes <= 4; tapes++) {
            for (int runs = 2; runs <= MOST_RUNS; runs++) {
                PolyphaseSort x = finished(withRuns(tapes, runs));
                for (int level = levelFor(tapes, runs); level > 0; level--) {
                    due.is("mergePhase() at level " + level, x.mergePhase(), level == 1 ? DONE : PHASE);
                }
                due.is("mergePhase() after DONE", x.mergePhase(), WRONG);
            }
        }
    }

    @Says("What `mergeOne()` leaves unchanged stays unchanged here too.")
    static void countRunsAndFieldsStay(Due due) {
        for (Situation situation : Situation.merge()) {
            PolyphaseSort x = situation.made();
            for (int i = 0; i < 10 && x.level() > 0; i++) {
                x.mergePhase();
                same(due, situation.name() + ", phase " + i, x, situation.made(),
                        Getter.COUNT, Getter.RUNS, Getter.FIELD, Getter.FRONT, Getter.CURRENT);
            }
        }
    }
}
