/** Tests of promise 15: runsOn. */
final class Promise15 extends Part {
    @Says("`runsOn(tape)` answers the count of runs,")
    static void answersTheCountOfRuns(Due due) {
        PolyphaseSort x = finished(withRuns(4, 9));
        hasRuns(due, "finished", x, 4, 3, 2, 0);
        x.mergeOne();
        hasRuns(due, "merged once", x, 3, 2, 1, 1);
        x.mergeOne();
        hasRuns(due, "after a phase", x, 2, 1, 0, 2);
        x.mergeOne();
        hasRuns(due, "after two phases", x, 1, 0, 1, 1);
        x.mergeOne();
        hasRuns(due, "sorted", x, 0, 1, 0, 0);
        x.read();
        hasRuns(due, "read", x, 0, 1, 0, 0);
    }

    @Says("real and dummy together,")
    static void countsDummyRunsToo(Due due) {
        hasRuns(due, "no run", finished(withRuns(3, 0)), 1, 0, 0);
        hasRuns(due, "4 runs and a dummy", finished(withRuns(3, 4)), 3, 2, 0);
        hasRuns(due, "22 runs and 12 dummies", finished(withRuns(3, 22)), 21, 13, 0);
        hasRuns(due, "2 runs and a dummy", finished(withRuns(4, 2)), 1, 1, 1, 0);
        hasRuns(due, "32 runs and 25 dummies", finished(withRuns(4, 32)), 24, 20, 13, 0);
        PolyphaseSort x = finished(withRuns(4, 32));
        x.mergePhase();
        hasRuns(due, "a phase later", x, 11, 7, 0, 13);
    }

    @Says("on a tape 0 to T-1.")
    static void answersForEveryTape(Due due) {
        for (Situation situation : Situation.notFeed()) {
            PolyphaseSort x = situation.made();
            for (int tape = 0; tape < situation.sizes()[0]; tape++) {
                due.holds(situation.name() + ": runsOn(" + tape + ") is a count", x.runsOn(tape) >= 0);
            }
        }
    }

    @Says("In stage FEED,")
    static void isNoneInFeed(Due due) {
        for (Situation situation : Situation.feed()) {
            isNoneForAll(due, situation.name(), situation.made());
        }
        for (Situation situation : Situation.full()) {
            isNoneForAll(due, situation.name(), situation.made());
        }
        for (Situation situation : Situation.any()) {
            PolyphaseSort x = situation.made();
            x.clear();
            isNoneForAll(due, situation.name() + ", cleared", x);
        }
    }

    private static void isNoneForAll(Due due, String name, PolyphaseSort x) {
        for (int tape = -1; tape <= 4; tape++) {
            due.is(name + ": runsOn(" + tape + ")", x.runsOn(tape), NONE);
        }
    }

    @Says({"or if there is no such tape (`tape` below 0", "`NONE`."})
    static void isNoneBelowZero(Due due) {
        for (Situation situation : Situation.any()) {
            PolyphaseSort x = situation.made();
            for (int tape : new int[] {MIN, MIN + 1, -128, -4, -3, -2, -1}) {
                due.is(situation.name() + ": runsOn(" + tape + ")", x.runsOn(tape), NONE);
            }
        }
    }

    @Says("or above T-1): `NONE`.")
    static void isNoneAboveTheLastTape(Due due) {
        for (Situation situation : Situation.any()) {
            PolyphaseSort x = situation.made();
            int tapes = situation.sizes()[0];
            for (int tape : new int[] {tapes, tapes + 1, 5, 6, 7, 8, 32, 64, 128, 256, MAX - 1, MAX}) {
                due.is(situation.name() + ": runsOn(" + tape + ")", x.runsOn(tape), NONE);
            }
        }
    }

    @Says("It changes nothing.")
    static void itChangesNothing(Due due) {
        changesNothing(due, Getter.RUNS_ON);
    }
}
