import java.util.Arrays;
import java.util.TreeSet;
import java.util.function.Function;

/** Compares answers with the ones that are due and prints those that differ. */
final class Due {
    // One more on either side than there can be targets.
    private static final int FIRST = -1;
    private static final int LAST = 32;
    private static final int WIDTH = LAST - FIRST + 1;

    private static final String[] GETTERS = {"status", "timeOf", "commandOf", "startedAt",
        "finishedAt", "level"};
    private static final int PER_TARGET = GETTERS.length + WIDTH;

    // More ticks than the longest build can take: 32 targets of 15 ticks each, one by one.
    private static final int MANY_TICKS = 600;

    // More ticks than a busy build takes.
    private static final int BUSY_TICKS = 60;

    private int asked = 0;
    private int wrong = 0;
    private String sentence = "";
    private int askedBefore = 0;

    /** What is looked at from here on is due by these words of the document. */
    void sentence(String words) {
        endSentence();
        sentence = words;
        askedBefore = asked;
    }

    /** The same words, looked at from one more side. */
    void sentence(String words, String side) {
        sentence(words + " -- " + side);
    }

    private void endSentence() {
        if (!sentence.isEmpty() && asked == askedBefore) {
            wrong++;
            System.out.println("[" + sentence + "] has no answer to look at");
        }
    }

    void is(String call, int got, int want) {
        same(call, "" + got, "" + want);
    }

    void is(String call, boolean got, boolean want) {
        same(call, "" + got, "" + want);
    }

    void same(String call, String got, String want) {
        asked++;
        if (!got.equals(want)) {
            wrong++;
            String words = sentence.isEmpty() ? "" : "[" + sentence + "] ";
            System.out.println(words + call + " answered " + got + ", due is " + want);
        }
    }

    /** The call must answer as given, and of all getters just those told may answer anew. */
    void changes(String call, JobServer x, Function<JobServer, Object> made, Object want,
            String... changed) {
        int[] before = everything(x);
        Object got = made.apply(x);
        same(call, "" + got, "" + want);
        TreeSet<String> anew = differences(before, everything(x));
        same("getters changed by " + call, "" + anew, "" + new TreeSet<>(Arrays.asList(changed)));
    }

    void leaves(String call, JobServer x, Function<JobServer, Object> made, Object want) {
        changes(call, x, made, want);
    }

    void refuses(String call, JobServer x, Function<JobServer, Object> made) {
        changes(call, x, made, false);
    }

    /** The statuses of the targets 0.., and that there are no more targets than those. */
    void statuses(String when, JobServer x, int... want) {
        for (int t = 0; t < want.length; t++) {
            is(when + ": status(" + t + ")", x.status(t), want[t]);
        }
        is(when + ": status(" + want.length + ")", x.status(want.length), -1);
    }

    void startedAt(JobServer x, int... want) {
        for (int t = 0; t < want.length; t++) {
            is("startedAt(" + t + ")", x.startedAt(t), want[t]);
        }
    }

    void finishedAt(JobServer x, int... want) {
        for (int t = 0; t < want.length; t++) {
            is("finishedAt(" + t + ")", x.finishedAt(t), want[t]);
        }
    }

    /** Ticks once for each answer that is due. */
    void ticks(JobServer x, int... want) {
        for (int i = 0; i < want.length; i++) {
            is("tick() no. " + (i + 1) + " of " + want.length, x.tick(), want[i]);
        }
    }

    /**
     * Takes both from here to the end, with all answers alike: so what no getter tells (the clock,
     * the failure flag, the time left to a command) is alike in both as well.
     */
    void sameCourse(String when, JobServer x, JobServer twin) {
        alike(when, x, twin);
        is(when + ": start()", x.start(), twin.start());
        alike(when + ", started", x, twin);
        for (int tick = 0; tick < MANY_TICKS && !(x.isQuiet() && twin.isQuiet()); tick++) {
            is(when + ": tick()", x.tick(), twin.tick());
            alike(when + ", ticked", x, twin);
        }
        is(when + ": isQuiet() in the end", x.isQuiet(), true);
    }

    /** The call, made again and again while a build runs, must leave its course as it is. */
    void leavesCourse(String call, Function<JobServer, Object> made) {
        for (int kind = 0; kind < 4; kind++) {
            JobServer x = busyBuild(kind % 2, kind / 2 == 1);
            JobServer twin = busyBuild(kind % 2, kind / 2 == 1);
            is(call + ": start()", x.start(), twin.start());
            for (int tick = 0; tick < BUSY_TICKS; tick++) {
                made.apply(x);
                is(call + ": tick()", x.tick(), twin.tick());
            }
            is(call + ": isQuiet() in the end", x.isQuiet(), true);
            alike(call, x, twin);
        }
    }

    /** All statuses, both kinds of edges, commands that fail; 11 is a target without edges. */
    private static JobServer busyBuild(int keepGoing, boolean nested) {
        JobServer x = new JobServer(12, 3, keepGoing);
        if (nested) {
            x.setSubmake(4);
            x.setSub(5);
            x.setSub(6);
            x.setSub(7);
        }
        x.setCommand(0, 2, false);
        x.setCommand(1, 4, false);
        x.addPrereq(2, 1, true);
        x.setTime(2, 3);
        x.addPrereq(3, 2, false);
        x.addPrereq(4, 0, false);
        x.setCommand(5, 6, false);
        x.setCommand(6, 3, true);
        x.addPrereq(7, 5, true);
        x.setCommand(8, 7, true);
        x.addPrereq(9, 8, true);
        x.setCommand(10, 5, false);
        x.setCommand(11, 2, false);
        return x;
    }

    private void alike(String when, JobServer x, JobServer twin) {
        TreeSet<String> apart = differences(everything(twin), everything(x));
        same(when + ": getters that differ", "" + apart, "[]");
    }

    /** Ticks until nothing is left to do; a class that never gets there must not hang the test. */
    static void toTheEnd(JobServer x) {
        for (int tick = 0; tick < MANY_TICKS && !x.isQuiet(); tick++) {
            x.tick();
        }
    }

    /** Numbers that are no target of n, also such as lie a whole turn of 32 away from one. */
    static int[] outside(int n) {
        return new int[] {Integer.MIN_VALUE, Integer.MIN_VALUE + 1, -64, -33, -32, -31, -2, -1, n,
            n + 1, 32, 33, n + 32, 64, 1 << 16, Integer.MAX_VALUE - 1, Integer.MAX_VALUE};
    }

    /** All that the getters tell, so that two states can be compared at once. */
    private static int[] everything(JobServer x) {
        int[] all = new int[WIDTH * PER_TARGET + 2];
        int at = 0;
        for (int t = FIRST; t <= LAST; t++) {
            all[at++] = x.status(t);
            all[at++] = x.timeOf(t);
            all[at++] = x.commandOf(t);
            all[at++] = x.startedAt(t);
            all[at++] = x.finishedAt(t);
            all[at++] = x.level(t);
            for (int p = FIRST; p <= LAST; p++) {
                all[at++] = x.prereqKind(t, p);
            }
        }
        all[at++] = x.tokensFree();
        all[at] = x.isQuiet() ? 1 : 0;
        return all;
    }

    private static TreeSet<String> differences(int[] before, int[] after) {
        TreeSet<String> anew = new TreeSet<>();
        for (int at = 0; at < after.length; at++) {
            if (before[at] != after[at]) {
                anew.add(getter(at) + "=" + after[at]);
            }
        }
        return anew;
    }

    private static String getter(int at) {
        int target = at / PER_TARGET + FIRST;
        int column = at % PER_TARGET;
        if (target > LAST) {
            return column == 0 ? "tokensFree()" : "isQuiet()";
        }
        if (column < GETTERS.length) {
            return GETTERS[column] + "(" + target + ")";
        }
        return "prereqKind(" + target + ", " + (column - GETTERS.length + FIRST) + ")";
    }

    boolean anyWrong() {
        return wrong != 0;
    }

    void end() {
        endSentence();
        System.out.println(asked + " answers looked at, " + wrong + " not as due");
        if (wrong != 0) {
            System.exit(1);
        }
    }
}
