import java.util.ArrayList;
import java.util.List;
import java.util.function.Supplier;

/** A way to bring a new object to some point of its life; every making goes the same way. */
record Situation(String name, int[] sizes, Supplier<PolyphaseSort> maker) {
    private static final int[][] SIZES = {{3, 2, 8}, {4, 2, 8}, {3, 2, 64}, {4, 3, 20}, {3, 8, 11}};

    PolyphaseSort made() {
        return maker.get();
    }

    /** An object of the same sizes to which nothing has been done. */
    PolyphaseSort fresh() {
        return new PolyphaseSort(sizes[0], sizes[1], sizes[2]);
    }

    static List<Situation> feed() {
        List<Situation> all = new ArrayList<>();
        for (int[] s : SIZES) {
            add(all, s, "FEED, empty", () -> fed(s, 0));
            add(all, s, "FEED, one record", () -> fed(s, 1));
            add(all, s, "FEED, workspace just filled", () -> fed(s, s[1]));
            add(all, s, "FEED, a record has left", () -> fed(s, s[1] + 1));
            add(all, s, "FEED, one below capacity", () -> fed(s, s[2] - 1));
            add(all, s, "FEED, cleared", () -> cleared(s));
        }
        return all;
    }

    /** In stage FEED, with as many records as there can be. */
    static List<Situation> full() {
        List<Situation> all = new ArrayList<>();
        for (int[] s : SIZES) {
            add(all, s, "FEED, full", () -> fed(s, s[2]));
        }
        return all;
    }

    static List<Situation> merge() {
        List<Situation> all = new ArrayList<>();
        for (int[] s : SIZES) {
            add(all, s, "MERGE, two runs", () -> merges(fed(s, s[1] + 1), 0));
            add(all, s, "MERGE, full", () -> merges(fed(s, s[2]), 0));
        }
        for (int i = 0; i < 4; i++) {
            int[] s = SIZES[i];
            add(all, s, "MERGE, amid a phase", () -> merges(fed(s, s[2]), 1));
            add(all, s, "MERGE, after a phase", () -> onePhase(fed(s, s[2])));
        }
        return all;
    }

    static List<Situation> sorted() {
        List<Situation> all = new ArrayList<>();
        for (int[] s : SIZES) {
            add(all, s, "SORTED, no records", () -> reads(fed(s, 0), 0));
            add(all, s, "SORTED, no records, read", () -> reads(fed(s, 0), 1));
            add(all, s, "SORTED, fewer than W", () -> reads(fed(s, s[1] - 1), 1));
            add(all, s, "SORTED, one run", () -> reads(fed(s, s[1]), 0));
            add(all, s, "SORTED, full", () -> reads(fed(s, s[2]), 0));
            add(all, s, "SORTED, partly read", () -> reads(fed(s, s[2]), 3));
            add(all, s, "SORTED, all read", () -> reads(fed(s, s[2]), s[2]));
            add(all, s, "SORTED, read beyond the last", () -> reads(fed(s, s[2] - 1), s[2] + 1));
            add(all, s, "SORTED, rewound", () -> rewound(fed(s, s[2])));
        }
        return all;
    }

    static List<Situation> notFeed() {
        return joined(merge(), sorted());
    }

    static List<Situation> notMerge() {
        return joined(feed(), full(), sorted());
    }

    static List<Situation> notSorted() {
        return joined(feed(), full(), merge());
    }

    static List<Situation> any() {
        return joined(feed(), full(), merge(), sorted());
    }

    @SafeVarargs
    private static List<Situation> joined(List<Situation>... lists) {
        List<Situation> all = new ArrayList<>();
        for (List<Situation> list : lists) {
            all.addAll(list);
        }
        return all;
    }

    private static void add(List<Situation> all, int[] sizes, String how, Supplier<PolyphaseSort> maker) {
        String name = "(" + sizes[0] + ", " + sizes[1] + ", " + sizes[2] + ") " + how;
        all.add(new Situation(name, sizes, maker));
    }

    /** Falling keys, so that every W records make a run, but every fifth the same as before. */
    private static PolyphaseSort fed(int[] sizes, int records) {
        PolyphaseSort x = new PolyphaseSort(sizes[0], sizes[1], sizes[2]);
        for (int i = 0; i < records; i++) {
            x.put(20 - i + (i % 5 == 4 ? 1 : 0), 500 + i);
        }
        return x;
    }

    private static PolyphaseSort cleared(int[] sizes) {
        PolyphaseSort x = reads(fed(sizes, sizes[2]), 2);
        x.clear();
        return x;
    }

    private static PolyphaseSort merges(PolyphaseSort x, int times) {
        x.finish();
        for (int i = 0; i < times; i++) {
            x.mergeOne();
        }
        return x;
    }

    private static PolyphaseSort onePhase(PolyphaseSort x) {
        x.finish();
        x.mergePhase();
        return x;
    }

    private static PolyphaseSort reads(PolyphaseSort x, int times) {
        Part.sorted(x);
        for (int i = 0; i < times; i++) {
            x.read();
        }
        return x;
    }

    private static PolyphaseSort rewound(PolyphaseSort x) {
        reads(x, 4);
        x.rewind();
        return x;
    }
}
