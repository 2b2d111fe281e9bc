/** Tests of promise 2: put. */
final class Promise02 extends Part {
    @Says("`put(key, value)` feeds one record.")
    static void feedsOneRecord(Due due) {
        PolyphaseSort x = new PolyphaseSort(3, 2, 8);
        x.put(5, 55);
        due.is("count()", x.count(), 1);
        due.is("KEY", x.field(0, KEY), 5);
        due.is("VALUE", x.field(0, VALUE), 55);
    }

    @Says({"The following cases apply in this order:",
        "The stage is not FEED: answers `WRONG`, nothing changes"})
    static void isWrongOutsideFeed(Due due) {
        refused(due, "put()", Situation.notFeed(), WRONG, x -> x.put(3, 4));
        refused(due, "put() of the least", Situation.notFeed(), WRONG, x -> x.put(MIN, MIN));
        refused(due, "put() of the greatest", Situation.notFeed(), WRONG, x -> x.put(MAX, MAX));
    }

    @Says("(also when `count()` equals the capacity).")
    static void isWrongNotFullOutsideFeed(Due due) {
        for (int capacity : new int[] {8, 20, 64}) {
            PolyphaseSort x = fed(3, 2, capacity, falling(capacity));
            due.is("put() in FEED", x.put(1, 1), FULL);
            x.finish();
            due.is("put() in MERGE", x.put(1, 1), WRONG);
            sorted(x);
            due.is("put() in SORTED", x.put(1, 1), WRONG);
            PolyphaseSort y = finished(fed(4, 2, capacity, rising(capacity)));
            due.is("put() in SORTED at once", y.put(1, 1), WRONG);
        }
    }

    @Says("`count()` equals the capacity: answers `FULL`, nothing changes.")
    static void isFullAtTheCapacity(Due due) {
        refused(due, "put()", Situation.full(), FULL, x -> x.put(3, 4));
        refused(due, "put() of the least", Situation.full(), FULL, x -> x.put(MIN, MIN));
        refused(due, "put() of the greatest", Situation.full(), FULL, x -> x.put(MAX, MAX));
    }

    @Says("Otherwise the record is accepted.")
    static void isAcceptedUpToTheCapacity(Due due) {
        for (int capacity = 8; capacity <= 64; capacity++) {
            PolyphaseSort x = fed(4, 2, capacity, falling(capacity - 1));
            due.is("the last put() of " + capacity, x.put(-7, 77), OK);
            due.is("its KEY", x.field(capacity - 1, KEY), -7);
            due.is("its VALUE", x.field(capacity - 1, VALUE), 77);
            due.is("put() beyond it", x.put(0, 0), FULL);
        }
    }

    @Says("Its origin is the value of `count()` before the call.")
    static void originIsTheCountBefore(Due due) {
        PolyphaseSort x = new PolyphaseSort(3, 2, 64);
        for (int i = 0; i < 64; i++) {
            int before = x.count();
            x.put(64 - i, 1000 + i);
            due.is("KEY of origin " + before, x.field(before, KEY), 64 - i);
            due.is("VALUE of origin " + before, x.field(before, VALUE), 1000 + i);
            due.is("ORIGIN of origin " + before, x.field(before, ORIGIN), before);
        }
    }

    @Says("It gets its run number and enters the workspace as said below;")
    static void getsItsRunNumberAtOnce(Due due) {
        PolyphaseSort x = new PolyphaseSort(3, 2, 16);
        int[] keys = {5, 6, 4, 7, 3, 9};
        // 5 leaves for 4 (run 2); 6 for 7 (run 1); 7 for 3 (run 2); 3 for 9 (run 2).
        int[] runs = {1, 1, 2, 1, 2, 2};
        int[] fronts = {0, 0, 1, 3, 4, 2};
        for (int i = 0; i < keys.length; i++) {
            x.put(keys[i], 0);
            due.is("RUN of " + i, x.field(i, RUN), runs[i]);
            due.is("front() after " + i, x.front(), fronts[i]);
        }
    }

    @Says("`count()` grows by 1; answers `OK`.")
    static void countGrowsByOne(Due due) {
        PolyphaseSort x = new PolyphaseSort(4, 3, 64);
        for (int i = 0; i < 64; i++) {
            due.is("put() " + i, x.put(i % 5, i), OK);
            due.is("count()", x.count(), i + 1);
        }
    }

    @Says("The workspace holds at most W records.")
    static void theWorkspaceHoldsNoMoreThanW(Due due) {
        for (int cells = 2; cells <= 8; cells++) {
            PolyphaseSort x = fed(3, cells, 64, falling(cells));
            due.is("runs() of W records", x.runs(), 1);
            x.put(-1, 0);
            due.is("runs() of one more", x.runs(), 2);
            due.is("front(): the least has left", x.front(), cells - 2);
        }
    }

    @Says("The FRONT of a non-empty workspace is its record with the least run number;")
    static void theFrontHasTheLeastRunNumber(Due due) {
        // 5 leaves for 1, which is less than 9 but of run 2.
        PolyphaseSort x = fed(3, 2, 8, 5, 9, 1);
        due.is("front() of 9 (run 1) and 1 (run 2)", x.front(), 1);
        x.put(MAX, 0);
        due.is("front() of MAX (run 1) and 1 (run 2)", x.front(), 3);
        x.put(MIN, 0);
        due.is("front() of 1 and MIN (both run 2)", x.front(), 4);
    }

    @Says("among those the least key;")
    static void theFrontHasTheLeastKeyOfItsRun(Due due) {
        due.is("front() of 3 2 4", fed(3, 8, 8, 3, 2, 4).front(), 1);
        due.is("front() of 3 4 2", fed(3, 8, 8, 3, 4, 2).front(), 2);
        due.is("front() of 2 3 4", fed(3, 8, 8, 2, 3, 4).front(), 0);
        due.is("front() of MAX MIN 0", fed(3, 8, 8, MAX, MIN, 0).front(), 1);
        leave(due, "eight cells", fed(3, 8, 64, 4, -7, 6, 2, -1, 9, 0, 3), 1, 4, 6, 3, 7, 0, 2, 5);
    }

    @Says("among those the least origin.")
    static void theFrontHasTheLeastOriginOfEqualKeys(Due due) {
        for (int key : EXTREMES) {
            PolyphaseSort x = fed(3, 3, 64, alwaysThe(key, 3));
            for (int i = 0; i < 50; i++) {
                due.is("front() of equal keys " + key, x.front(), i);
                x.put(key, -i);
            }
        }
        // The cell that 1 leaves is taken by a later 5, which still comes after the older ones.
        leave(due, "5 1 5 5", fed(3, 3, 64, 5, 1, 5, 5), 0, 2, 3);
    }

    @Says({"When a record is accepted:",
        "If the workspace holds fewer than W records, the new record gets run number 1 and enters."})
    static void theFirstRecordsGetRunNumberOne(Due due) {
        for (int cells = 2; cells <= 8; cells++) {
            for (int[] keys : new int[][] {falling(cells), rising(cells), alwaysThe(MIN, cells)}) {
                PolyphaseSort x = new PolyphaseSort(4, cells, 8);
                for (int i = 0; i < cells; i++) {
                    x.put(keys[i], 0);
                    due.is("RUN of record " + i + " with W = " + cells, x.field(i, RUN), 1);
                    due.is("front() then", x.front(), keys[0] > keys[1] ? i : 0);
                }
            }
        }
    }

    @Says("No record leaves.")
    static void noRecordLeavesBeforeTheWorkspaceIsFull(Due due) {
        for (int cells = 2; cells <= 8; cells++) {
            int[] origins = falling(cells);
            leave(due, "W = " + cells, fed(3, cells, 64, falling(cells)), origins);
            leave(due, "W = " + cells, fed(3, cells, 64, rising(cells)), rising(cells));
        }
    }

    @Says("Otherwise the front s, as it is before the new record enters, leaves the workspace.")
    static void theFrontBeforeTheCallLeaves(Due due) {
        // Were the new record in already, it would be the front itself and leave at once.
        PolyphaseSort x = fed(3, 2, 16, 5, 9, 1);
        due.is("front() after 1", x.front(), 1);
        leave(due, "9, MAX and then 1", x, 1, 3);
        PolyphaseSort y = fed(3, 3, 16, 5, 9, 7);
        y.put(6, 0);
        leave(due, "6 in the place of 5", y, 3, 2, 1);
    }

    @Says("The new record gets the run number of s if its key is greater")
    static void aGreaterKeyGetsTheRunOfTheFront(Due due) {
        for (int low : EXTREMES) {
            for (int high : EXTREMES) {
                if (low < high) {
                    due.is("RUN of " + high + " after " + low, fed(3, 2, 8, low, low, high).field(2, RUN), 1);
                }
            }
        }
        PolyphaseSort y = fed(4, 2, 8, 5, 4, 3, 2, 3);
        hasRunNumbers(due, "3 after 2 of run 2", y, 1, 1, 2, 2, 2);
    }

    @Says("than or equal to the key of s,")
    static void anEqualKeyGetsTheRunOfTheFront(Due due) {
        for (int key : EXTREMES) {
            PolyphaseSort x = fed(3, 2, 64, alwaysThe(key, 64));
            due.is("runs() of equal keys " + key, x.runs(), 1);
        }
        PolyphaseSort y = fed(4, 2, 8, 5, 4, 3, 2, 2);
        hasRunNumbers(due, "2 after 2 of run 2", y, 1, 1, 2, 2, 2);
    }

    @Says("and the run number of s plus 1 if its key is less.")
    static void aLesserKeyGetsTheNextRun(Due due) {
        for (int low : EXTREMES) {
            for (int high : EXTREMES) {
                if (low < high) {
                    due.is("RUN of " + low + " after " + high, fed(3, 2, 8, high, high, low).field(2, RUN), 2);
                }
            }
        }
        hasRunNumbers(due, "falling keys", fed(3, 3, 16, falling(10)), 1, 1, 1, 2, 2, 2, 3, 3, 3, 4);
        // 8 leaves for 1 (run 2), then 9 for 8: it is the run of s that counts, not the greatest.
        hasRunNumbers(due, "8 9 1 8", fed(3, 2, 16, 8, 9, 1, 8), 1, 1, 2, 2);
        hasRunNumbers(due, "8 9 1 9 8", fed(3, 2, 16, 8, 9, 1, 9, 8), 1, 1, 2, 1, 2);
    }

    @Says("Then it enters the workspace, which again holds W records.")
    static void theWorkspaceStaysFull(Due due) {
        for (int cells = 2; cells <= 8; cells++) {
            PolyphaseSort x = fed(3, cells, 64, rising(cells));
            for (int i = cells; i < 40; i++) {
                due.is("front() with W = " + cells, x.front(), i - cells);
                x.put(i, 0);
            }
        }
    }

    @Says("Every int is allowed as `key` and as `value`.")
    static void everyKeyAndValueIsAllowed(Due due) {
        for (int key : EXTREMES) {
            for (int value : EXTREMES) {
                PolyphaseSort x = new PolyphaseSort(4, 2, 8);
                for (int i = 0; i < 8; i++) {
                    due.is("put(" + key + ", " + value + ")", x.put(key, value), OK);
                    due.is("KEY", x.field(i, KEY), key);
                    due.is("VALUE", x.field(i, VALUE), value);
                }
            }
        }
    }

    @Says("The value plays no part in any comparison.")
    static void valuesPlayNoPart(Due due) {
        int[] keys = {4, 4, 1, 9, 4, 0, 1, 9, 4, 4, 0, 2};
        for (int tapes = 3; tapes <= 4; tapes++) {
            PolyphaseSort rise = new PolyphaseSort(tapes, 3, 16);
            PolyphaseSort fall = new PolyphaseSort(tapes, 3, 16);
            for (int i = 0; i < keys.length; i++) {
                rise.put(keys[i], i);
                fall.put(keys[i], -i);
                due.is("front()", rise.front(), fall.front());
                due.is("RUN", rise.field(i, RUN), fall.field(i, RUN));
            }
            readsOrigins(due, "rising values", sorted(rise), resultOf(keys));
            readsOrigins(due, "falling values", sorted(fall), resultOf(keys));
        }
    }

    @Says("The fields of records accepted earlier do not change, whether or not they are still in the workspace.")
    static void earlierRecordsStayAsTheyWere(Due due) {
        int[] runs = {1, 1, 2, 2, 3, 3, 4, 4, 5, 5, 6, 6};
        PolyphaseSort x = new PolyphaseSort(3, 2, 16);
        for (int i = 0; i < runs.length; i++) {
            x.put(-i, 10 * i);
            for (int j = 0; j <= i; j++) {
                due.is("KEY of " + j, x.field(j, KEY), -j);
                due.is("VALUE of " + j, x.field(j, VALUE), 10 * j);
                due.is("RUN of " + j, x.field(j, RUN), runs[j]);
                due.is("ORIGIN of " + j, x.field(j, ORIGIN), j);
            }
        }
    }

    @Says("The stage stays FEED.")
    static void theStageStaysFeed(Due due) {
        PolyphaseSort x = new PolyphaseSort(3, 2, 8);
        for (int i = 0; i < 10; i++) {
            x.put(-i, 0);
            due.is("level()", x.level(), NONE);
            due.is("outputTape()", x.outputTape(), NONE);
            due.is("runsOn(0)", x.runsOn(0), NONE);
            due.is("mergeOne()", x.mergeOne(), WRONG);
            due.is("read()", x.read(), WRONG);
        }
        due.is("finish()", x.finish(), OK);
    }
}
