/** Promise 9: status. */
public final class Promise09StatusTest {
    private static final Due due = new Due();

    public static void main(String[] args) {
        everyStatus();
        wrongTargets();
        waitingBeforeStart();
        theCallChangesNothing();
        due.end();
    }

    private static JobServer withEveryStatus() {
        JobServer x = new JobServer(6, 3, 1);
        x.setCommand(0, 9, false);
        x.setCommand(2, 1, true);
        x.setTime(3, 1);
        x.addPrereq(4, 2, false);
        x.addPrereq(5, 0, false);
        x.start();
        x.tick();
        return x;
    }

    private static void everyStatus() {
        due.sentence("answers the current status of t as a STATUS_ constant");
        JobServer x = withEveryStatus();
        due.statuses("after a tick", x, JobServer.STATUS_RUNNING, JobServer.STATUS_REMADE,
                JobServer.STATUS_FAILED, JobServer.STATUS_UPTODATE, JobServer.STATUS_SKIPPED,
                JobServer.STATUS_WAITING);
        Due.toTheEnd(x);
        due.statuses("at the end", x, JobServer.STATUS_REMADE, JobServer.STATUS_REMADE,
                JobServer.STATUS_FAILED, JobServer.STATUS_UPTODATE, JobServer.STATUS_SKIPPED,
                JobServer.STATUS_REMADE);
    }

    private static void wrongTargets() {
        due.sentence("or -1 if t is not in 0..n-1.");
        for (int n : new int[] {1, 6, 31, 32}) {
            JobServer x = new JobServer(n, 3, 1);
            for (int w : Due.outside(n)) {
                due.leaves("status(" + w + ")", x, s -> s.status(w), -1);
            }
            x.start();
            for (int w : Due.outside(n)) {
                due.leaves("status(" + w + "), started", x, s -> s.status(w), -1);
            }
            Due.toTheEnd(x);
            for (int w : Due.outside(n)) {
                due.leaves("status(" + w + ") when quiet", x, s -> s.status(w), -1);
            }
        }
    }

    private static void waitingBeforeStart() {
        due.sentence("Before start() every status is STATUS_WAITING.");
        JobServer x = new JobServer(4, 8, 1);
        x.setSubmake(0);
        x.setSub(1);
        x.setTime(2, 7);
        x.addPrereq(3, 2, false);
        due.statuses("before start()", x, 0, 0, 0, 0);
        x.tick();
        due.statuses("after a refused tick()", x, 0, 0, 0, 0);
    }

    private static void theCallChangesNothing() {
        due.sentence("Changes nothing.");
        JobServer x = withEveryStatus();
        for (int call = -40; call < 80; call++) {
            x.status(call % 7);
        }
        due.sameCourse("looked at and not", x, withEveryStatus());
        due.leavesCourse("status", s -> s.status(8));
        due.leavesCourse("status of no target", s -> s.status(12));
    }
}
