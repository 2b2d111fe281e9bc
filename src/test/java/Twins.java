import java.util.Arrays;
import java.util.function.Supplier;
import java.util.function.ToIntFunction;

/**
 * Takes two objects through the same calls to the end of their lives. What a call has changed
 * inside may show only much later, so two objects are taken as alike only if they stay so.
 */
final class Twins {
    private static final int MOST_MERGES = 100;
    private static final int MOST_RECORDS = 64;

    private final Due due;
    private final String name;
    private final PolyphaseSort one;
    private final PolyphaseSort other;
    private final boolean withGetters;
    private boolean alike = true;

    private Twins(Due due, String name, PolyphaseSort one, PolyphaseSort other, boolean withGetters) {
        this.due = due;
        this.name = name;
        this.one = one;
        this.other = other;
        this.withGetters = withGetters;
    }

    static void alike(Due due, String name, Supplier<PolyphaseSort> one, Supplier<PolyphaseSort> other) {
        new Twins(due, name, one.get(), other.get(), true).live();
        new Twins(due, name, one.get(), other.get(), true).fillAndLive();
    }

    /** For what a getter may have done: asking the other one with it would hide that. */
    static void alikeWithoutGetters(Due due, String name, Supplier<PolyphaseSort> one,
            Supplier<PolyphaseSort> other) {
        new Twins(due, name, one.get(), other.get(), false).live();
        new Twins(due, name, one.get(), other.get(), false).fillAndLive();
    }

    private void fillAndLive() {
        fill();
        live();
    }

    private void live() {
        compare("at once");
        call("put", x -> x.put(7, 70));
        call("put", x -> x.put(-3, 71));
        call("finish", x -> x.finish());
        mergeAll();
        readAll();
        call("rewind", x -> x.rewind());
        call("readFrom", x -> x.readFrom(0));
        call("read", x -> x.read());
        call("clear", x -> {
            x.clear();
            return 0;
        });
        fill();
        call("finish", x -> x.finish());
        mergeAll();
        readAll();
        due.holds(name + ": the two stay alike", alike);
    }

    private void fill() {
        for (int i = 0; i <= MOST_RECORDS && alike; i++) {
            int key = i % 7 - i / 2;
            int value = i;
            call("put", x -> x.put(key, value));
        }
    }

    private void mergeAll() {
        int[] last = {0};
        for (int i = 0; i < MOST_MERGES && last[0] != Part.WRONG && alike; i++) {
            call("mergeOne", x -> last[0] = x.mergeOne());
        }
    }

    private void readAll() {
        int[] last = {0};
        for (int i = 0; i <= MOST_RECORDS && last[0] == Part.OK && alike; i++) {
            call("read", x -> last[0] = x.read());
        }
        call("read", x -> x.read());
    }

    private void call(String what, ToIntFunction<PolyphaseSort> call) {
        if (!alike) {
            return;
        }
        int got = call.applyAsInt(one);
        int want = call.applyAsInt(other);
        due.is(name + ": a later " + what + "()", got, want);
        alike = got == want;
        compare("after a later " + what + "()");
    }

    private void compare(String when) {
        if (!withGetters) {
            return;
        }
        for (Getter getter : Getter.values()) {
            if (alike && !Arrays.equals(getter.ask(one), getter.ask(other))) {
                due.failed(name + ": " + getter + " differs " + when);
                alike = false;
            }
        }
    }
}
