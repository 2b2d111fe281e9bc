/** Tests of promise 10: count. */
final class Promise10 extends Part {
    @Says("`count()` answers the number of records accepted since the object was made")
    static void countsTheAcceptedRecords(Due due) {
        for (int capacity : new int[] {8, 33, 64}) {
            PolyphaseSort x = new PolyphaseSort(3, 2, capacity);
            for (int i = 0; i < capacity; i++) {
                due.is("count() before put " + i, x.count(), i);
                x.put(i % 3, 0);
            }
            due.is("count() at the capacity", x.count(), capacity);
        }
    }

    @Says("accepted")
    static void refusedRecordsDoNotCount(Due due) {
        PolyphaseSort x = fed(3, 2, 8, falling(8));
        x.put(1, 1);
        x.put(2, 2);
        due.is("count() after FULL", x.count(), 8);
        x.finish();
        x.put(3, 3);
        due.is("count() after WRONG in MERGE", x.count(), 8);
        sorted(x);
        x.put(4, 4);
        due.is("count() after WRONG in SORTED", x.count(), 8);
    }

    @Says("or last cleared,")
    static void countsFromTheLastClear(Due due) {
        for (Situation situation : Situation.any()) {
            PolyphaseSort x = situation.made();
            x.clear();
            due.is(situation.name() + ": count() cleared", x.count(), 0);
            putAll(x, 1, 2, 3);
            due.is(situation.name() + ": count() of three more", x.count(), 3);
        }
    }

    @Says("in every stage.")
    static void staysInEveryStage(Due due) {
        for (int records = 0; records <= 12; records++) {
            PolyphaseSort x = fed(4, 2, 12, falling(records));
            due.is("count() in FEED", x.count(), records);
            x.finish();
            due.is("count() finished", x.count(), records);
            for (int i = 0; i < 100 && x.level() > 0; i++) {
                x.mergeOne();
                due.is("count() merged", x.count(), records);
            }
            for (int i = 0; i < records + 2; i++) {
                x.read();
                due.is("count() read", x.count(), records);
            }
            x.rewind();
            due.is("count() rewound", x.count(), records);
        }
    }

    @Says("It changes nothing.")
    static void itChangesNothing(Due due) {
        changesNothing(due, Getter.COUNT);
    }
}
