/** Tests of promise 13: runs. */
final class Promise13 extends Part {
    @Says("`runs()` answers the greatest run number given to any of the `count()` records,")
    static void answersTheGreatestRunNumber(Due due) {
        PolyphaseSort x = new PolyphaseSort(3, 2, 16);
        int[] keys = {5, 6, 4, 7, 8, 3, 9};
        // 5 leaves for 4 (run 2); 6 for 7 and 7 for 8 (run 1 again); 8 for 3 (run 2); 3 for 9.
        int[] runs = {1, 1, 2, 2, 2, 2, 2};
        for (int i = 0; i < keys.length; i++) {
            x.put(keys[i], 0);
            due.is("runs() after put " + i, x.runs(), runs[i]);
        }
        hasRunNumbers(due, "each", x, 1, 1, 2, 1, 1, 2, 2);
    }

    @Says("whether or not they are still in the workspace;")
    static void countsRecordsInAndOutOfTheWorkspace(Due due) {
        // The one record of run 2 is still in the workspace.
        due.is("runs() of 2 1 0", fed(3, 2, 8, 2, 1, 0).runs(), 2);
        for (int cells = 2; cells <= 8; cells++) {
            PolyphaseSort x = new PolyphaseSort(3, cells, 64);
            for (int i = 0; i < 64; i++) {
                x.put(-i, 0);
                due.is("runs() with W = " + cells + " after put " + i, x.runs(), i / cells + 1);
            }
            // The whole workspace is emptied by finish().
            due.is("runs() finished", finished(x).runs(), 63 / cells + 1);
        }
    }

    @Says("0 if there are no records.")
    static void isZeroWithoutRecords(Due due) {
        PolyphaseSort x = new PolyphaseSort(4, 2, 8);
        due.is("runs() at the start", x.runs(), 0);
        x.finish();
        due.is("runs() finished", x.runs(), 0);
        x.read();
        due.is("runs() read", x.runs(), 0);
        for (Situation situation : Situation.any()) {
            PolyphaseSort y = situation.made();
            y.clear();
            due.is(situation.name() + ": runs() cleared", y.runs(), 0);
        }
    }

    @Says("Merging does not alter this answer.")
    static void mergingDoesNotAlterIt(Due due) {
        for (int tapes = 3; tapes <= 4; tapes++) {
            for (int runs = 2; runs <= 32; runs++) {
                PolyphaseSort x = finished(withRuns(tapes, runs));
                due.is("runs() finished", x.runs(), runs);
                for (int i = 0; i < 100 && x.level() > 0; i++) {
                    x.mergeOne();
                    due.is("runs() merged", x.runs(), runs);
                }
                x.read();
                due.is("runs() read", x.runs(), runs);
            }
        }
    }

    @Says("It changes nothing.")
    static void itChangesNothing(Due due) {
        changesNothing(due, Getter.RUNS);
    }
}
