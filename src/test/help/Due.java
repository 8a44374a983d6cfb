/** Counts the answers of a test that are not the ones that are due. */
public final class Due {
    private final ReadAge judge;
    private int asked = 0;
    private int wrong = 0;
    private String where = "";

    public Due(ReadAge judge) {
        this.judge = judge;
    }

    public Due() {
        this(null);
    }

    /** What is asked from here on, for the messages. */
    public Due in(String what) {
        where = what;
        return this;
    }

    public void is(String call, long got, long want) {
        asked++;
        if (got != want) {
            wrong++;
            System.out.println(where + ": " + call + " answered " + got + ", due is " + want);
        }
    }

    public void is(String call, boolean got, boolean want) {
        is(call, got ? 1 : 0, want ? 1 : 0);
    }

    /** An answer of NONE or false (got below 1), with its STATUS. */
    public void refused(String call, long got, long none, int status) {
        is(call, got, none);
        is(call + ", status()", judge.status(), status);
    }

    public void refused(String call, int got, int status) {
        refused(call, got, ReadAge.NONE, status);
    }

    public void refused(String call, boolean got, int status) {
        refused(call, got ? 1 : 0, 0, status);
    }

    /** An answer with STATUS 0. */
    public void fine(String call, long got, long want) {
        is(call, got, want);
        is(call + ", status()", judge.status(), 0);
    }

    public void fine(String call, boolean got) {
        fine(call, got ? 1 : 0, 1);
    }

    public void fraction(String call, int got, long top, long bottom) {
        fine(call, got, top > 0 ? 1 : 0);
        is(call + ", top()", judge.top(), top);
        is(call + ", bottom()", judge.bottom(), bottom);
    }

    public int wrong() {
        return wrong;
    }

    public int asked() {
        return asked;
    }

    /** Ends a test: with exit code 1, if an answer was wrong. */
    public static void end(Due... all) {
        int asked = 0;
        int wrong = 0;
        for (Due due : all) {
            asked += due.asked;
            wrong += due.wrong;
        }
        System.out.println(asked + " answers asked, " + wrong + " wrong");
        if (wrong != 0 || asked == 0) {
            System.exit(1);
        }
    }
}
