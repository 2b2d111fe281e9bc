import java.util.List;

/** Tests of promise 9: clear. */
final class Promise09 extends Part {
    @Says("`clear()`: in any stage, the object becomes as it was when fresh (Promise 1),")
    static void becomesFreshFromFeed(Due due) {
        becomesFresh(due, Situation.feed());
        becomesFresh(due, Situation.full());
    }

    @Says("`clear()`: in any stage, the object becomes as it was when fresh (Promise 1),")
    static void becomesFreshFromMerge(Due due) {
        becomesFresh(due, Situation.merge());
    }

    @Says("`clear()`: in any stage, the object becomes as it was when fresh (Promise 1),")
    static void becomesFreshFromSorted(Due due) {
        becomesFresh(due, Situation.sorted());
    }

    private static void becomesFresh(Due due, List<Situation> situations) {
        for (Situation situation : situations) {
            PolyphaseSort x = situation.made();
            x.clear();
            due.is(situation.name() + ": count()", x.count(), 0);
            due.is(situation.name() + ": runs()", x.runs(), 0);
            due.is(situation.name() + ": front()", x.front(), NONE);
            due.is(situation.name() + ": level()", x.level(), NONE);
            due.is(situation.name() + ": outputTape()", x.outputTape(), NONE);
            due.is(situation.name() + ": runsOn(0)", x.runsOn(0), NONE);
            noCurrent(due, situation.name(), x);
            Twins.alike(due, situation.name(), () -> cleared(situation), situation::fresh);
        }
    }

    private static PolyphaseSort cleared(Situation situation) {
        PolyphaseSort x = situation.made();
        x.clear();
        return x;
    }

    @Says("the object becomes as it was when fresh (Promise 1),")
    static void acceptsAgainAfterFull(Due due) {
        for (Situation situation : Situation.full()) {
            PolyphaseSort x = situation.made();
            due.is(situation.name() + ": put()", x.put(1, 1), FULL);
            x.clear();
            due.is(situation.name() + ": put() after clear()", x.put(1, 1), OK);
            due.is(situation.name() + ": count()", x.count(), 1);
        }
    }

    @Says("with the same T, W and capacity.")
    static void keepsItsSizes(Due due) {
        for (Situation situation : Situation.any()) {
            PolyphaseSort x = situation.made();
            int[] sizes = situation.sizes();
            x.clear();
            hasSizes(due, situation.name(), x, sizes[0], sizes[1], sizes[2]);
        }
    }

    @Says("The next record accepted has origin 0 again.")
    static void originsStartAgainAtZero(Due due) {
        for (Situation situation : Situation.any()) {
            PolyphaseSort x = situation.made();
            x.clear();
            due.is(situation.name() + ": put()", x.put(-9, 90), OK);
            due.is(situation.name() + ": front()", x.front(), 0);
            due.is(situation.name() + ": KEY of 0", x.field(0, KEY), -9);
            due.is(situation.name() + ": VALUE of 0", x.field(0, VALUE), 90);
            due.is(situation.name() + ": ORIGIN of 1", x.field(1, ORIGIN), NONE);
            x.finish();
            x.read();
            due.is(situation.name() + ": origin read", x.current(ORIGIN), 0);
        }
    }
}
