/** Tests of promise 1: construction and the start. */
final class Promise01 extends Part {
    @Says("`PolyphaseSort(int tapes, int workspace, int capacity)` makes a fresh object in stage FEED, "
        + "without records.")
    static void makesAnObjectInFeedWithoutRecords(Due due) {
        for (int tapes = 3; tapes <= 4; tapes++) {
            PolyphaseSort x = new PolyphaseSort(tapes, 2, 8);
            due.is("count()", x.count(), 0);
            due.is("mergeOne()", x.mergeOne(), WRONG);
            due.is("read()", x.read(), WRONG);
            due.is("put()", x.put(1, 1), OK);
            due.is("finish() of a new one", new PolyphaseSort(tapes, 2, 8).finish(), DONE);
        }
    }

    @Says("`tapes` is T, 3 to 4.")
    static void tapesIsTheNumberOfTapes(Due due) {
        for (int tapes = 3; tapes <= 4; tapes++) {
            hasSizes(due, "tapes " + tapes, new PolyphaseSort(tapes, 2, 8), tapes, 2, 8);
        }
    }

    @Says("`workspace` is W, 2 to 8.")
    static void workspaceIsTheNumberOfCells(Due due) {
        for (int cells = 2; cells <= 8; cells++) {
            hasSizes(due, "workspace " + cells, new PolyphaseSort(3, cells, 20), 3, cells, 20);
        }
    }

    @Says("`capacity` is the greatest number of records, 8 to 64.")
    static void capacityIsTheGreatestNumberOfRecords(Due due) {
        for (int capacity = 8; capacity <= 64; capacity++) {
            hasSizes(due, "capacity " + capacity, new PolyphaseSort(4, 2, capacity), 4, 2, capacity);
        }
    }

    @Says("Each argument below its least value becomes the least;")
    static void tooFewTapesBecomeThree(Due due) {
        for (int tapes : new int[] {2, 1, 0, -1, -3}) {
            hasSizes(due, "tapes " + tapes, new PolyphaseSort(tapes, 3, 9), 3, 3, 9);
        }
    }

    @Says("Each argument below its least value becomes the least;")
    static void tooSmallAWorkspaceBecomesTwo(Due due) {
        for (int cells : new int[] {1, 0, -1, -4}) {
            hasSizes(due, "workspace " + cells, new PolyphaseSort(4, cells, 9), 4, 2, 9);
        }
    }

    @Says("Each argument below its least value becomes the least;")
    static void tooSmallACapacityBecomesEight(Due due) {
        for (int capacity : new int[] {7, 2, 1, 0, -1, -64}) {
            hasSizes(due, "capacity " + capacity, new PolyphaseSort(4, 3, capacity), 4, 3, 8);
        }
    }

    @Says("each above its greatest value becomes the greatest.")
    static void tooManyTapesBecomeFour(Due due) {
        for (int tapes : new int[] {5, 6, 8, 259}) {
            hasSizes(due, "tapes " + tapes, new PolyphaseSort(tapes, 3, 9), 4, 3, 9);
        }
    }

    @Says("each above its greatest value becomes the greatest.")
    static void tooLargeAWorkspaceBecomesEight(Due due) {
        for (int cells : new int[] {9, 10, 64, 258}) {
            hasSizes(due, "workspace " + cells, new PolyphaseSort(3, cells, 30), 3, 8, 30);
        }
    }

    @Says("each above its greatest value becomes the greatest.")
    static void tooLargeACapacityBecomesSixtyFour(Due due) {
        for (int capacity : new int[] {65, 66, 128, 264}) {
            hasSizes(due, "capacity " + capacity, new PolyphaseSort(3, 3, capacity), 3, 3, 64);
        }
    }

    @Says("This holds for every int,")
    static void theGreatestAndLeastIntsAreTakenToo(Due due) {
        for (int least : new int[] {MIN, MIN + 1}) {
            hasSizes(due, "tapes " + least, new PolyphaseSort(least, 3, 9), 3, 3, 9);
            hasSizes(due, "workspace " + least, new PolyphaseSort(4, least, 9), 4, 2, 9);
            hasSizes(due, "capacity " + least, new PolyphaseSort(4, 3, least), 4, 3, 8);
        }
        for (int most : new int[] {MAX - 1, MAX}) {
            hasSizes(due, "tapes " + most, new PolyphaseSort(most, 3, 9), 4, 3, 9);
            hasSizes(due, "workspace " + most, new PolyphaseSort(3, most, 30), 3, 8, 30);
            hasSizes(due, "capacity " + most, new PolyphaseSort(3, 3, most), 3, 3, 64);
        }
    }

    @Says("and for each argument on its own.")
    static void eachArgumentIsTakenOnItsOwn(Due due) {
        int[][] tapes = {{MIN, 3}, {2, 3}, {3, 3}, {4, 4}, {5, 4}, {MAX, 4}};
        int[][] cells = {{MIN, 2}, {1, 2}, {2, 2}, {8, 8}, {9, 8}, {MAX, 8}};
        int[][] capacity = {{MIN, 8}, {7, 8}, {8, 8}, {64, 64}, {65, 64}, {MAX, 64}};
        for (int[] t : tapes) {
            for (int[] w : cells) {
                for (int[] c : capacity) {
                    String name = "(" + t[0] + ", " + w[0] + ", " + c[0] + ")";
                    hasSizes(due, name, new PolyphaseSort(t[0], w[0], c[0]), t[1], w[1], c[1]);
                }
            }
        }
    }

    @Says("T, W and the capacity never change afterwards.")
    static void theSizesStayThroughEveryStage(Due due) {
        for (int records = 0; records <= 10; records++) {
            staysThroughARound(due, new PolyphaseSort(4, 3, 10), records, 4, 3, 10);
            staysThroughARound(due, new PolyphaseSort(3, 8, 10), records, 3, 8, 10);
        }
    }

    private static void staysThroughARound(Due due, PolyphaseSort x, int records, int... sizes) {
        putAll(x, falling(records));
        x.put(MIN, 0);
        due.holds("there is a tape T-1 when finished", finished(x).runsOn(sizes[0] - 1) != NONE);
        due.is("runsOn(T) when finished", x.runsOn(sizes[0]), NONE);
        afterReads(x, 3);
        due.is("runsOn(T) when read", x.runsOn(sizes[0]), NONE);
        hasSizes(due, records + " records", x, sizes[0], sizes[1], sizes[2]);
    }

    @Says("At the start the workspace is empty,")
    static void theWorkspaceIsEmptyAtTheStart(Due due) {
        for (int cells = 2; cells <= 8; cells++) {
            PolyphaseSort x = new PolyphaseSort(3, cells, 8);
            putAll(x, falling(cells));
            due.is("runs() with W = " + cells + " records", x.runs(), 1);
            due.is("front()", x.front(), cells - 1);
        }
    }

    @Says("`count()` is 0,")
    static void countIsZeroAtTheStart(Due due) {
        due.is("count()", new PolyphaseSort(3, 2, 8).count(), 0);
        due.is("count()", new PolyphaseSort(4, 8, 64).count(), 0);
    }

    @Says("`runs()` is 0,")
    static void runsIsZeroAtTheStart(Due due) {
        due.is("runs()", new PolyphaseSort(3, 2, 8).runs(), 0);
        due.is("runs()", new PolyphaseSort(4, 8, 64).runs(), 0);
    }

    @Says("`front()` is `NONE`,")
    static void frontIsNoneAtTheStart(Due due) {
        due.is("front()", new PolyphaseSort(3, 2, 8).front(), NONE);
        due.is("front()", new PolyphaseSort(4, 8, 64).front(), NONE);
    }

    @Says("`level()` is `NONE`,")
    static void levelIsNoneAtTheStart(Due due) {
        due.is("level()", new PolyphaseSort(3, 2, 8).level(), NONE);
        due.is("level()", new PolyphaseSort(4, 8, 64).level(), NONE);
    }

    @Says("`outputTape()` is `NONE`,")
    static void outputTapeIsNoneAtTheStart(Due due) {
        due.is("outputTape()", new PolyphaseSort(3, 2, 8).outputTape(), NONE);
        due.is("outputTape()", new PolyphaseSort(4, 8, 64).outputTape(), NONE);
    }

    @Says("`runsOn` answers `NONE` for every argument,")
    static void runsOnIsNoneForEveryArgumentAtTheStart(Due due) {
        for (int tapes = 3; tapes <= 4; tapes++) {
            PolyphaseSort x = new PolyphaseSort(tapes, 2, 8);
            for (int tape = -2; tape <= 5; tape++) {
                due.is("runsOn(" + tape + ")", x.runsOn(tape), NONE);
            }
            for (int tape : EXTREMES) {
                due.is("runsOn(" + tape + ")", x.runsOn(tape), NONE);
            }
        }
    }

    @Says("and there is no current record.")
    static void thereIsNoCurrentRecordAtTheStart(Due due) {
        noCurrent(due, "at the start", new PolyphaseSort(3, 2, 8));
        noCurrent(due, "at the start", new PolyphaseSort(4, 8, 64));
    }
}
