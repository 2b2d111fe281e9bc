/** Tests of promise 14: level. */
final class Promise14 extends Part {
    @Says("`level()` answers the level:")
    static void answersTheLevel(Due due) {
        PolyphaseSort x = finished(withRuns(3, 8));
        for (int level = 4; level > 0; level--) {
            due.is("level()", x.level(), level);
            x.mergePhase();
        }
        due.is("level()", x.level(), 0);
    }

    @Says("`NONE` in stage FEED,")
    static void isNoneInFeed(Due due) {
        for (Situation situation : Situation.feed()) {
            due.is(situation.name() + ": level()", situation.made().level(), NONE);
        }
        for (Situation situation : Situation.full()) {
            PolyphaseSort x = situation.made();
            x.put(1, 1);
            due.is(situation.name() + ": level() after FULL", x.level(), NONE);
        }
        for (Situation situation : Situation.any()) {
            PolyphaseSort x = situation.made();
            x.clear();
            due.is(situation.name() + ": level() cleared", x.level(), NONE);
        }
    }

    @Says("above 0 in stage MERGE,")
    static void isAboveZeroInMerge(Due due) {
        for (Situation situation : Situation.merge()) {
            PolyphaseSort x = situation.made();
            due.holds(situation.name() + ": level() is above 0", x.level() > 0);
            int answer = OK;
            for (int i = 0; i < 100 && answer != DONE; i++) {
                answer = x.mergeOne();
                due.holds(situation.name() + ": level() is above 0 until DONE", x.level() > 0 == (answer != DONE));
            }
        }
    }

    @Says("0 in stage SORTED.")
    static void isZeroInSorted(Due due) {
        for (Situation situation : Situation.sorted()) {
            PolyphaseSort x = situation.made();
            due.is(situation.name() + ": level()", x.level(), 0);
            x.read();
            due.is(situation.name() + ": level() read", x.level(), 0);
            x.rewind();
            due.is(situation.name() + ": level() rewound", x.level(), 0);
        }
    }

    @Says("It changes nothing.")
    static void itChangesNothing(Due due) {
        changesNothing(due, Getter.LEVEL);
    }
}
