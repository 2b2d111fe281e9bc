/** Tests of promise 16: outputTape. */
final class Promise16 extends Part {
    @Says("`outputTape()` answers the output tape as set by `finish()`,")
    static void isSetByFinish(Due due) {
        for (int tapes = 3; tapes <= 4; tapes++) {
            due.is("outputTape() of no runs", finished(withRuns(tapes, 0)).outputTape(), 0);
            due.is("outputTape() of one run", finished(withRuns(tapes, 1)).outputTape(), 0);
            for (int runs = 2; runs <= 32; runs++) {
                due.is("outputTape() of " + runs, finished(withRuns(tapes, runs)).outputTape(), tapes - 1);
            }
        }
    }

    @Says("`mergeOne()`")
    static void isSetByMergeOne(Due due) {
        PolyphaseSort x = finished(withRuns(3, 8));
        int[] outputs = {2, 2, 1, 1, 0, 2, 2};
        for (int output : outputs) {
            x.mergeOne();
            due.is("outputTape() after mergeOne()", x.outputTape(), output);
        }
        due.is("level()", x.level(), 0);
        x.read();
        due.is("outputTape() while reading", x.outputTape(), 2);
        x.rewind();
        due.is("outputTape() rewound", x.outputTape(), 2);
    }

    @Says("and `mergePhase()`.")
    static void isSetByMergePhase(Due due) {
        afterPhases(due, finished(withRuns(3, 32)), 1, 0, 2, 1, 0, 2, 2);
        afterPhases(due, finished(withRuns(3, 21)), 1, 0, 2, 1, 0, 0);
        afterPhases(due, finished(withRuns(4, 32)), 2, 1, 0, 3, 2, 2);
        afterPhases(due, finished(withRuns(4, 31)), 2, 1, 0, 3, 3);
    }

    private static void afterPhases(Due due, PolyphaseSort x, int... outputs) {
        for (int i = 0; i < outputs.length; i++) {
            x.mergePhase();
            due.is("outputTape() after phase " + i, x.outputTape(), outputs[i]);
        }
        due.is("level()", x.level(), 0);
    }

    @Says("In stage FEED: `NONE`.")
    static void isNoneInFeed(Due due) {
        for (Situation situation : Situation.feed()) {
            due.is(situation.name() + ": outputTape()", situation.made().outputTape(), NONE);
        }
        for (Situation situation : Situation.full()) {
            due.is(situation.name() + ": outputTape()", situation.made().outputTape(), NONE);
        }
        for (Situation situation : Situation.any()) {
            PolyphaseSort x = situation.made();
            x.clear();
            due.is(situation.name() + ": outputTape() cleared", x.outputTape(), NONE);
        }
    }

    @Says("It changes nothing.")
    static void itChangesNothing(Due due) {
        changesNothing(due, Getter.OUTPUT_TAPE);
    }
}
