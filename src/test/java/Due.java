/** Compares answers with what is due and keeps count of those that differ. */
final class Due {
    private static final int MOST_PRINTED = 50;

    private String test = "";
    private int wrong = 0;
    private int asked = 0;

    /** Names the test whose answers come next. */
    void begin(String name) {
        test = name + ": ";
    }

    void is(String call, long got, long want) {
        asked++;
        if (got != want) {
            report(call + " answered " + got + ", due is " + want);
        }
    }

    void holds(String claim, boolean so) {
        asked++;
        if (!so) {
            report("it is not so that " + claim);
        }
    }

    void failed(String how) {
        asked++;
        report(how);
    }

    private void report(String what) {
        wrong++;
        if (wrong <= MOST_PRINTED) {
            System.out.println(test + what);
        }
    }

    int wrong() {
        return wrong;
    }

    void end() {
        if (wrong != 0) {
            System.out.println(wrong + " of " + asked + " answers are not as due");
            System.exit(1);
        }
        System.out.println("all " + asked + " answers are as due");
    }
}
