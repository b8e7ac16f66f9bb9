/** Promise 10: timestamp. */
public final class Promise10TimeOfTest {
    private static final Due due = new Due();

    public static void main(String[] args) {
        wrongTargets();
        zeroIfNeverSet();
        theTimeSetIsKeptUntilRemade();
        otherStatusesKeepTheTime();
        theTimeOfTheTickThatRemadeIt();
        theCallChangesNothing();
        due.end();
    }

    private static void wrongTargets() {
        due.sentence("answers the current timestamp of t, or -1 if t is not in 0..n-1.");
        for (int n : new int[] {1, 6, 31, 32}) {
            JobServer x = new JobServer(n, 3, 1);
            x.setTime(0, 7);
            x.setTime(n - 1, 8);
            for (int w : Due.outside(n)) {
                due.leaves("timeOf(" + w + ")", x, s -> s.timeOf(w), -1);
            }
            due.is("timeOf the last", x.timeOf(n - 1), 8);
            x.start();
            for (int w : Due.outside(n)) {
                due.leaves("timeOf(" + w + "), started", x, s -> s.timeOf(w), -1);
            }
        }
    }

    private static void zeroIfNeverSet() {
        due.sentence("(0 if never set)");
        JobServer x = new JobServer(32, 1, 0);
        x.setTime(5, 1);
        for (int t = 0; t < 32; t++) {
            due.is("timeOf(" + t + ")", x.timeOf(t), t == 5 ? 1 : 0);
        }
    }

    private static void theTimeSetIsKeptUntilRemade() {
        due.sentence("This is the value set by setTime (0 if never set) until t becomes REMADE");
        JobServer x = new JobServer(3, 1, 0);
        x.setTime(0, JobServer.MAX_TIME);
        x.setTime(1, JobServer.MAX_TIME - 1);
        x.addPrereq(1, 0, false);
        x.setCommand(1, 3, false);
        due.is("timeOf(1) before start()", x.timeOf(1), 999999);
        x.start();
        due.is("timeOf(1) at the start", x.timeOf(1), 999999);
        due.ticks(x, 0, 0);
        due.is("timeOf(1), running", x.timeOf(1), 999999);
        due.ticks(x, 1);
        due.is("timeOf(1), remade", x.timeOf(1), 1000003);
    }

    private static void otherStatusesKeepTheTime() {
        due.sentence("until t becomes REMADE", "FAILED, SKIPPED and UPTODATE are not REMADE");
        JobServer x = new JobServer(4, 1, 0);
        x.setTime(0, 5);
        x.setTime(1, 4);
        x.setTime(2, 3);
        x.setTime(3, 2);
        x.addPrereq(1, 0, false);
        x.setCommand(1, 1, true);
        x.addPrereq(2, 1, false);
        x.addPrereq(3, 2, true);
        x.start();
        due.ticks(x, 1, -1);
        due.statuses("at the end", x, 3, 4, 5, 5);
        for (int t = 0; t < 4; t++) {
            due.is("timeOf(" + t + ")", x.timeOf(t), 5 - t);
        }
    }

    private static void theTimeOfTheTickThatRemadeIt() {
        due.sentence("after which it is STAMP_BASE + the clock value of the tick that remade it.");
        JobServer x = new JobServer(5, 1, 0);
        x.setCommand(0, 2, false);
        x.setSubmake(1);
        x.setSub(3);
        x.setCommand(3, 4, false);
        x.setTime(4, 9);
        x.start();
        due.ticks(x, 0, 1);
        due.is("timeOf(0), just remade", x.timeOf(0), JobServer.STAMP_BASE + 2);
        due.ticks(x, 0, 0, 0, 2, 1, -1);
        due.is("timeOf(0), remade long ago", x.timeOf(0), JobServer.STAMP_BASE + 2);
        due.is("timeOf(1), the sub-make target", x.timeOf(1), JobServer.STAMP_BASE + 6);
        due.is("timeOf(2)", x.timeOf(2), JobServer.STAMP_BASE + 7);
        due.is("timeOf(3), a sub target", x.timeOf(3), JobServer.STAMP_BASE + 6);
        due.is("timeOf(4), up to date", x.timeOf(4), 9);
    }

    private static void theCallChangesNothing() {
        due.sentence("Changes nothing.");
        JobServer x = new JobServer(3, 1, 0);
        x.setTime(1, 4);
        for (int call = -40; call < 80; call++) {
            x.timeOf(call % 4);
        }
        JobServer twin = new JobServer(3, 1, 0);
        twin.setTime(1, 4);
        due.sameCourse("looked at and not", x, twin);
        due.leavesCourse("timeOf", s -> s.timeOf(8));
        due.leavesCourse("timeOf of no target", s -> s.timeOf(12));
    }
}
