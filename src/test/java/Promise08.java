/** Tests of promise 8: rewind. */
final class Promise08 extends Part {
    @Says("`rewind()`: if the stage is not SORTED, answers `WRONG` and nothing changes.")
    static void isWrongOutsideSorted(Due due) {
        refused(due, "rewind()", Situation.notSorted(), WRONG, x -> x.rewind());
    }

    @Says("Otherwise nothing counts as read any more")
    static void readingStartsAnew(Due due) {
        for (int before = 0; before <= 8; before++) {
            PolyphaseSort x = afterReads(fed(4, 2, 8, 6, 1, 5, 1, 4, 3, 2), before);
            x.rewind();
            readsOrigins(due, "after " + before + " reads", x, 1, 3, 6, 5, 4, 2, 0);
            x.rewind();
            due.is("readFrom(2) after a rewind()", x.readFrom(2), OK);
            due.is("current(ORIGIN)", x.current(ORIGIN), 6);
        }
    }

    @Says("and there is no current record;")
    static void thereIsNoCurrentRecord(Due due) {
        for (Situation situation : Situation.sorted()) {
            PolyphaseSort x = situation.made();
            x.read();
            x.rewind();
            noCurrent(due, situation.name(), x);
        }
    }

    @Says("answers `OK`.")
    static void answersOk(Due due) {
        for (Situation situation : Situation.sorted()) {
            PolyphaseSort x = situation.made();
            due.is(situation.name() + ": rewind()", x.rewind(), OK);
            x.read();
            due.is(situation.name() + ": rewind() after a read()", x.rewind(), OK);
            x.readFrom(MAX);
            due.is(situation.name() + ": rewind() after a readFrom()", x.rewind(), OK);
        }
    }

    @Says("This is also so if nothing had been read")
    static void isAlsoSoIfNothingWasRead(Due due) {
        for (int tapes = 3; tapes <= 4; tapes++) {
            PolyphaseSort x = sorted(fed(tapes, 2, 8, 3, 2, 1));
            due.is("rewind() before any read()", x.rewind(), OK);
            noCurrent(due, "then", x);
            due.is("rewind() twice", x.rewind(), OK);
            noCurrent(due, "then", x);
            int number = tapes;
            Twins.alike(due, "rewound unread", () -> rewound(number), () -> sorted(fed(number, 2, 8, 3, 2, 1)));
        }
    }

    private static PolyphaseSort rewound(int tapes) {
        PolyphaseSort x = sorted(fed(tapes, 2, 8, 3, 2, 1));
        x.rewind();
        return x;
    }

    @Says("or there are no records.")
    static void isAlsoSoWithoutRecords(Due due) {
        for (int tapes = 3; tapes <= 4; tapes++) {
            PolyphaseSort x = finished(new PolyphaseSort(tapes, 2, 8));
            due.is("rewind() of nothing", x.rewind(), OK);
            noCurrent(due, "nothing rewound", x);
            due.is("read() of nothing", x.read(), END);
            due.is("rewind() of nothing read", x.rewind(), OK);
            noCurrent(due, "nothing rewound again", x);
            due.is("read() of nothing", x.read(), END);
        }
    }

    @Says("Stage, level, output tape, counts of runs, `count()`, `runs()` and the fields of records do not change.")
    static void nothingElseChanges(Due due) {
        for (Situation situation : Situation.sorted()) {
            PolyphaseSort x = situation.made();
            x.rewind();
            same(due, situation.name(), x, situation.made(), Getter.COUNT, Getter.FIELD, Getter.FRONT,
                    Getter.RUNS, Getter.LEVEL, Getter.RUNS_ON, Getter.OUTPUT_TAPE);
            due.is(situation.name() + ": put()", x.put(1, 1), WRONG);
            due.is(situation.name() + ": mergeOne()", x.mergeOne(), WRONG);
            due.is(situation.name() + ": read()", x.read(), x.count() == 0 ? END : OK);
        }
    }
}
