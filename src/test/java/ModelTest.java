/**
 * Long runs of calls, the same each time, on objects of every size; after every call every answer
 * of every getter is compared with the model's.
 */
public final class ModelTest {
    private static final int[] EDGES = {
        Integer.MIN_VALUE, Integer.MIN_VALUE + 1, -1, 0, 1, Integer.MAX_VALUE - 1, Integer.MAX_VALUE};
    private static final int KEY_SHAPES = 8;

    private static final Due due = new Due();
    private static long seed = 1;
    private static PolyphaseSort sort;
    private static Model model;
    private static String name;

    public static void main(String[] args) {
        for (int tapes = 3; tapes <= 4; tapes++) {
            for (int cells = 2; cells <= 8; cells++) {
                for (int shape = 0; shape < KEY_SHAPES; shape++) {
                    everyCount(tapes, cells, shape);
                }
            }
        }
        for (int i = 0; i < 300 && due.wrong() == 0; i++) {
            anyCalls(3 + pick(2), 2 + pick(7), 8 + pick(57));
        }
        due.end();
    }

    /** Feeds, merges and reads 0, 1, 2 .. 64 records on one object, cleared in between. */
    private static void everyCount(int tapes, int cells, int shape) {
        start(tapes, cells, 64);
        for (int records = 0; records <= 64 && due.wrong() == 0; records++) {
            for (int i = 0; i < records; i++) {
                putBoth(key(shape, i), pick(5));
            }
            if (records == 64) {
                putBoth(1, 1);
            }
            call(1);
            mergeAll(records);
            readAll(records);
            call(7);
        }
    }

    private static void mergeAll(int how) {
        for (int i = 0; i < 100 && model.level() > 0; i++) {
            call((how + i) % 3 == 0 ? 3 : 2);
        }
    }

    private static void readAll(int records) {
        for (int i = 0; i <= records; i++) {
            call(4);
        }
        call(6);
        call(5);
    }

    private static void anyCalls(int tapes, int cells, int capacity) {
        start(tapes, cells, capacity);
        int shape = pick(KEY_SHAPES);
        for (int i = 0; i < 400; i++) {
            // A fair draw would seldom get as far as many runs or many reads.
            int draw = pick(100);
            if (draw < 8) {
                call(draw);
            } else if (model.level() < 0) {
                putBoth(key(shape, i), EDGES[pick(EDGES.length)]);
            } else {
                call(model.level() > 0 ? 2 + draw % 2 : 4 + draw % 3);
            }
        }
    }

    private static void start(int tapes, int cells, int capacity) {
        name = "(" + tapes + ", " + cells + ", " + capacity + ")";
        sort = new PolyphaseSort(tapes, cells, capacity);
        model = new Model(tapes, cells, capacity);
        compare("new");
    }

    private static void putBoth(int key, int value) {
        due.is(name + " put(" + key + ", " + value + ")", sort.put(key, value), model.put(key, value));
        compare("put");
    }

    private static void call(int which) {
        int key = pick(3) == 0 ? EDGES[pick(EDGES.length)] : pick(40) - 5;
        switch (which) {
            case 0: putBoth(key, 9); break;
            case 1: due.is(name + " finish()", sort.finish(), model.finish()); break;
            case 2: due.is(name + " mergeOne()", sort.mergeOne(), model.mergeOne()); break;
            case 3: due.is(name + " mergePhase()", sort.mergePhase(), model.mergePhase()); break;
            case 4: due.is(name + " read()", sort.read(), model.read()); break;
            case 5: due.is(name + " readFrom(" + key + ")", sort.readFrom(key), model.readFrom(key)); break;
            case 6: due.is(name + " rewind()", sort.rewind(), model.rewind()); break;
            default: sort.clear(); model.clear(); break;
        }
        compare("call " + which);
    }

    private static void compare(String after) {
        String where = name + " after " + after + ": ";
        due.is(where + "count()", sort.count(), model.count());
        due.is(where + "front()", sort.front(), model.front());
        due.is(where + "runs()", sort.runs(), model.runs());
        due.is(where + "level()", sort.level(), model.level());
        due.is(where + "outputTape()", sort.outputTape(), model.outputTape());
        for (int tape = -1; tape <= 4; tape++) {
            due.is(where + "runsOn(" + tape + ")", sort.runsOn(tape), model.runsOn(tape));
        }
        for (int what = -1; what <= 4; what++) {
            due.is(where + "current(" + what + ")", sort.current(what), model.current(what));
            compareField(where, what);
        }
        for (int edge : EDGES) {
            due.is(where + "runsOn(" + edge + ")", sort.runsOn(edge), model.runsOn(edge));
            due.is(where + "current(" + edge + ")", sort.current(edge), model.current(edge));
            due.is(where + "field(" + edge + ", 3)", sort.field(edge, 3), model.field(edge, 3));
            due.is(where + "field(0, " + edge + ")", sort.field(0, edge), model.field(0, edge));
        }
    }

    private static void compareField(String where, int what) {
        for (int origin = -1; origin <= model.count(); origin++) {
            int got = sort.field(origin, what);
            int want = model.field(origin, what);
            // Putting the text together for every one of so many would take most of the time.
            if (got != want) {
                due.is(where + "field(" + origin + ", " + what + ")", got, want);
            }
        }
    }

    private static int key(int shape, int i) {
        switch (shape) {
            case 0: return i;
            case 1: return -i;
            case 2: return 7;
            case 3: return pick(3);
            case 4: return pick(30);
            case 5: return EDGES[pick(EDGES.length)];
            case 6: return (int) next();
            default: return 100 - 2 * (i / 2) + i % 2;
        }
    }

    private static int pick(int below) {
        return (int) Long.remainderUnsigned(next(), below);
    }

    private static long next() {
        seed = seed * 6364136223846793005L + 1442695040888963407L;
        return seed >>> 29;
    }
}
