import java.util.function.Function;
import java.util.stream.IntStream;

/** Each getter, asked with every argument that can matter and with some that are out of range. */
enum Getter {
    COUNT(x -> new int[] {x.count()}),
    FIELD(Getter::fields),
    FRONT(x -> new int[] {x.front()}),
    RUNS(x -> new int[] {x.runs()}),
    LEVEL(x -> new int[] {x.level()}),
    RUNS_ON(x -> IntStream.rangeClosed(-2, 6).map(x::runsOn).toArray()),
    OUTPUT_TAPE(x -> new int[] {x.outputTape()}),
    // ORIGIN first: it tells the records apart, and no earlier question can have spoilt the answer.
    CURRENT(x -> IntStream.of(3, 2, 1, 0, -2, -1, 4, 5, 6).map(x::current).toArray());

    private static final int ORIGINS = 68;
    private static final int WHATS = 8;

    private final Function<PolyphaseSort, int[]> answers;

    Getter(Function<PolyphaseSort, int[]> answers) {
        this.answers = answers;
    }

    int[] ask(PolyphaseSort x) {
        return answers.apply(x);
    }

    private static int[] fields(PolyphaseSort x) {
        int[] all = new int[ORIGINS * WHATS];
        for (int i = 0; i < all.length; i++) {
            all[i] = x.field(i / WHATS - 2, i % WHATS - 2);
        }
        return all;
    }
}
