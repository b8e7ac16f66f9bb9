/** Promise 4: setting a command. */
public final class Promise04SetCommandTest {
    private static final Due due = new Due();
    private static final int MAX = JobServer.MAX_DURATION;
    private static final int[] WRONG_DURATIONS = {Integer.MIN_VALUE, Integer.MIN_VALUE + 1, -MAX,
        -1, 0, MAX + 1, MAX + 2, 31, 32, 33, 256, 257, Integer.MAX_VALUE - 1, Integer.MAX_VALUE};

    public static void main(String[] args) {
        refusedOnceStarted();
        wrongTargetsAreRefused();
        wrongDurationsAreRefused();
        theCommandIsReplaced();
        theLastCommandIsTheOneRun();
        everyLevelTakesACommand();
        theSubmakeCommandIsStored();
        theSubmakeCommandIsNeverUsed();
        severalReasonsToRefuse();
        refusedCallsChangeNothing();
        onlyTheCommandChanges();
        due.end();
    }

    private static void refusedOnceStarted() {
        due.sentence("the build has started;");
        JobServer x = new JobServer(3, 1, 0);
        x.setTime(2, 1);
        x.start();
        due.refuses("setCommand on a RUNNING one", x, s -> s.setCommand(0, 3, true));
        due.refuses("setCommand on a WAITING one", x, s -> s.setCommand(1, 3, true));
        due.refuses("setCommand on an UPTODATE one", x, s -> s.setCommand(2, 3, true));
        due.ticks(x, 1, 1, -1);
        due.refuses("setCommand when quiet", x, s -> s.setCommand(1, 3, true));
        due.statuses("at the end", x, 2, 2, 3);
        due.leavesCourse("setCommand(11, 3, true)", s -> s.setCommand(11, 3, true));
        due.leavesCourse("setCommand(8, 1, false)", s -> s.setCommand(8, 1, false));
    }

    private static void wrongTargetsAreRefused() {
        due.sentence("t is not in 0..n-1;");
        for (int n : new int[] {1, 3, 31, 32}) {
            JobServer x = new JobServer(n, 1, 0);
            for (int w : Due.outside(n)) {
                due.refuses("setCommand(" + w + ", 2)", x, s -> s.setCommand(w, 2, false));
                due.refuses("setCommand(" + w + ", 1)", x, s -> s.setCommand(w, 1, true));
            }
            due.is("the first target", x.setCommand(0, 2, true), true);
            due.is("the last target", x.setCommand(n - 1, 2, true), true);
        }
    }

    private static void wrongDurationsAreRefused() {
        due.sentence("duration < 1 or duration > MAX_DURATION.");
        JobServer x = new JobServer(3, 1, 0);
        x.setCommand(1, 7, true);
        for (int w : WRONG_DURATIONS) {
            due.refuses("setCommand(1, " + w + ", false)", x, s -> s.setCommand(1, w, false));
            due.refuses("setCommand(2, " + w + ", true)", x, s -> s.setCommand(2, w, true));
        }
    }

    private static void theCommandIsReplaced() {
        due.sentence("Otherwise the command is replaced and the call answers true.");
        JobServer x = new JobServer(32, 1, 0);
        for (int duration = MAX; duration >= 1; duration--) {
            int d = duration;
            due.changes("setCommand(0), fails", x, s -> s.setCommand(0, d, true), true,
                    "commandOf(0)=" + (d + 16));
            due.changes("setCommand(0), succeeds", x, s -> s.setCommand(0, d, false), true,
                    "commandOf(0)=" + d);
            due.changes("setCommand(31), fails", x, s -> s.setCommand(31, d, true), true,
                    "commandOf(31)=" + (d + 16));
        }
    }

    private static void theLastCommandIsTheOneRun() {
        due.sentence("sets the command of t to the given duration and failure flag.");
        JobServer x = new JobServer(5, 5, 1);
        x.setCommand(0, 3, true);
        x.setCommand(1, 2, false);
        x.setCommand(2, 15, false);
        x.setCommand(2, 1, true);
        x.setCommand(3, 1, true);
        x.setCommand(3, 4, false);
        x.setCommand(4, 15, true);
        x.start();
        due.ticks(x, 1, 1, 1, 1, 0, 0, 0, 0, 0, 0, 0, 0, 0, 0, 1, -1);
        due.statuses("at the end", x, 4, 2, 4, 2, 4);
        due.finishedAt(x, 3, 2, 1, 4, 15);
    }

    private static void everyLevelTakesACommand() {
        due.sentence("It works for targets of every level;");
        JobServer x = new JobServer(3, 1, 0);
        x.setSubmake(1);
        x.setSub(2);
        for (int t = 0; t < 3; t++) {
            int target = t;
            due.changes("setCommand(" + t + ")", x, s -> s.setCommand(target, 5 + target, true),
                    true, "commandOf(" + t + ")=" + (21 + t));
        }
        JobServer before = new JobServer(3, 1, 0);
        for (int t = 0; t < 3; t++) {
            before.setCommand(t, 5 + t, true);
        }
        before.setSubmake(1);
        before.setSub(2);
        due.sameCourse("commands set before the levels and after", x, before);
    }

    private static void theSubmakeCommandIsStored() {
        due.sentence("for the sub-make target the command is stored (and reported by commandOf)");
        JobServer x = new JobServer(2, 1, 0);
        x.setSubmake(0);
        for (int duration = 1; duration <= MAX; duration++) {
            due.is("setCommand(0)", x.setCommand(0, duration, true), true);
            due.is("commandOf(0)", x.commandOf(0), duration + 16);
        }
        x.start();
        due.is("commandOf(0), running", x.commandOf(0), 31);
        due.ticks(x, 1);
        due.is("commandOf(0), remade", x.commandOf(0), 31);
    }

    /** The sub-build takes 2 ticks, so a duration on either side of that would show. */
    private static void theSubmakeCommandIsNeverUsed() {
        due.sentence("but never used.");
        for (int duration = 1; duration <= MAX; duration++) {
            for (int fails = 0; fails <= 1; fails++) {
                JobServer x = new JobServer(3, 1, 0);
                x.setSubmake(0);
                x.setSub(1);
                x.setCommand(0, duration, fails == 1);
                x.setCommand(1, 2, false);
                x.start();
                due.ticks(x, 0, 2, 1, -1);
                due.statuses("at the end", x, 2, 2, 2);
                due.finishedAt(x, 2, 2, 3);
            }
        }
    }

    private static void severalReasonsToRefuse() {
        due.sentence("Refused (answers false) if, tested in order");
        JobServer x = new JobServer(3, 1, 0);
        for (int w : Due.outside(3)) {
            due.refuses("both wrong", x, s -> s.setCommand(w, 0, true));
            due.refuses("both wrong", x, s -> s.setCommand(w, MAX + 1, true));
        }
        x.start();
        for (int w : Due.outside(3)) {
            due.refuses("started, no target", x, s -> s.setCommand(w, 5, true));
            due.refuses("started, both wrong", x, s -> s.setCommand(w, 0, true));
        }
        for (int w : WRONG_DURATIONS) {
            due.refuses("started, no duration", x, s -> s.setCommand(1, w, true));
        }
    }

    private static void refusedCallsChangeNothing() {
        due.sentence("A refused call changes nothing;");
        for (int keepGoing = 0; keepGoing <= 1; keepGoing++) {
            JobServer x = withSomeCommands(keepGoing);
            for (int w : Due.outside(4)) {
                x.setCommand(w, 3, true);
            }
            for (int w : WRONG_DURATIONS) {
                for (int t = 0; t < 4; t++) {
                    x.setCommand(t, w, t % 2 == 0);
                }
            }
            due.sameCourse("with refused ones and without", x, withSomeCommands(keepGoing));
        }
    }

    private static JobServer withSomeCommands(int keepGoing) {
        JobServer x = new JobServer(4, 2, keepGoing);
        x.setCommand(0, 3, false);
        x.setCommand(1, MAX, true);
        x.setCommand(2, 1, false);
        x.addPrereq(3, 1, true);
        return x;
    }

    private static void onlyTheCommandChanges() {
        due.sentence("nothing besides the command of t changes.");
        JobServer x = new JobServer(3, 1, 0);
        x.addPrereq(1, 0, true);
        x.setTime(1, 4);
        due.changes("setCommand(1, 9, true)", x, s -> s.setCommand(1, 9, true), true,
                "commandOf(1)=25");
        due.leaves("setCommand(1, 9, true) again", x, s -> s.setCommand(1, 9, true), true);
        due.changes("setCommand(1, 1, false)", x, s -> s.setCommand(1, 1, false), true,
                "commandOf(1)=1");
        JobServer never = new JobServer(3, 1, 0);
        never.addPrereq(1, 0, true);
        never.setTime(1, 4);
        due.sameCourse("with the command set back and never set", x, never);
    }
}
