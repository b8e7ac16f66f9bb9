import java.util.function.Function;

/** Compares answers with the ones that are due and prints those that differ. */
final class Due {
    // One more on either side than there can be targets.
    private static final int FIRST = -1;
    private static final int LAST = 32;

    private int asked = 0;
    private int wrong = 0;

    void is(String call, int got, int want) {
        same(call, "" + got, "" + want);
    }

    void is(String call, boolean got, boolean want) {
        same(call, "" + got, "" + want);
    }

    void same(String call, String got, String want) {
        asked++;
        if (!got.equals(want)) {
            wrong++;
            System.out.println(call + " answered " + got + ", due is " + want);
        }
    }

    /** The call must answer as given and leave everything that can be seen as it was. */
    void leaves(String call, JobServer x, Function<JobServer, Object> made, Object want) {
        String before = everything(x);
        Object got = made.apply(x);
        same(call, "" + got, "" + want);
        same("all getters after " + call, everything(x), before);
    }

    void refuses(String call, JobServer x, Function<JobServer, Object> made) {
        leaves(call, x, made, false);
    }

    /** The statuses of the targets 0.., and that there are no more targets than those. */
    void statuses(String when, JobServer x, int... want) {
        for (int t = 0; t < want.length; t++) {
            is(when + ": status(" + t + ")", x.status(t), want[t]);
        }
        is(when + ": status(" + want.length + ")", x.status(want.length), -1);
    }

    void startedAt(JobServer x, int... want) {
        for (int t = 0; t < want.length; t++) {
            is("startedAt(" + t + ")", x.startedAt(t), want[t]);
        }
    }

    void finishedAt(JobServer x, int... want) {
        for (int t = 0; t < want.length; t++) {
            is("finishedAt(" + t + ")", x.finishedAt(t), want[t]);
        }
    }

    /** Ticks once for each answer that is due. */
    void ticks(JobServer x, int... want) {
        for (int i = 0; i < want.length; i++) {
            is("tick() no. " + (i + 1) + " of " + want.length, x.tick(), want[i]);
        }
    }

    /** All that the getters tell, so that two states can be compared at once. */
    static String everything(JobServer x) {
        StringBuilder all = new StringBuilder();
        for (int t = FIRST; t <= LAST; t++) {
            all.append(t).append(':').append(x.status(t)).append(',').append(x.timeOf(t));
            all.append(',').append(x.commandOf(t)).append(',').append(x.level(t));
            all.append(',').append(x.startedAt(t)).append(',').append(x.finishedAt(t)).append(' ');
            for (int p = FIRST; p <= LAST; p++) {
                all.append(x.prereqKind(t, p));
            }
            all.append('\n');
        }
        return all.append(x.tokensFree()).append(' ').append(x.isQuiet()).toString();
    }

    boolean anyWrong() {
        return wrong != 0;
    }

    void end() {
        System.out.println(asked + " answers looked at, " + wrong + " not as due");
        if (wrong != 0) {
            System.exit(1);
        }
    }
}
