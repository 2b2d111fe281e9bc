/** Tests of promise 12: front. */
final class Promise12 extends Part {
    @Says("`front()` answers the origin of the front of the workspace (as defined in Promise 2);")
    static void answersTheOriginOfTheFront(Due due) {
        PolyphaseSort x = new PolyphaseSort(3, 3, 16);
        int[] keys = {5, 5, 2, 4, 1, 9, 0};
        // 2 leaves for 4; 4 leaves for 1 (run 2); the older 5 leaves for 9; the other 5 for 0 (run 2).
        int[] fronts = {0, 0, 2, 3, 0, 1, 5};
        for (int i = 0; i < keys.length; i++) {
            x.put(keys[i], 100 - i);
            due.is("front() after put " + i, x.front(), fronts[i]);
        }
    }

    @Says("`NONE` if the workspace is empty.")
    static void isNoneIfTheWorkspaceIsEmpty(Due due) {
        for (int cells = 2; cells <= 8; cells++) {
            PolyphaseSort x = new PolyphaseSort(4, cells, 8);
            due.is("front() of an empty workspace", x.front(), NONE);
            x.put(3, 3);
            due.is("front() of one record", x.front(), 0);
            x.clear();
            due.is("front() cleared", x.front(), NONE);
        }
    }

    @Says("So it is `NONE` before the first record is accepted")
    static void isNoneBeforeTheFirstRecord(Due due) {
        PolyphaseSort x = new PolyphaseSort(3, 2, 8);
        due.is("front() at the start", x.front(), NONE);
        x.read();
        x.mergeOne();
        due.is("front() after refused calls", x.front(), NONE);
        for (Situation situation : Situation.any()) {
            PolyphaseSort y = situation.made();
            y.clear();
            due.is(situation.name() + ": front() cleared", y.front(), NONE);
        }
    }

    @Says("and in the stages MERGE")
    static void isNoneInMerge(Due due) {
        for (Situation situation : Situation.merge()) {
            due.is(situation.name() + ": front()", situation.made().front(), NONE);
        }
    }

    @Says("and SORTED.")
    static void isNoneInSorted(Due due) {
        for (Situation situation : Situation.sorted()) {
            due.is(situation.name() + ": front()", situation.made().front(), NONE);
        }
    }

    @Says("It changes nothing.")
    static void itChangesNothing(Due due) {
        changesNothing(due, Getter.FRONT);
    }
}
