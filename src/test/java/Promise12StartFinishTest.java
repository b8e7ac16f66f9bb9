/** Promise 12: start and finish times. */
public final class Promise12StartFinishTest {
    private static final Due due = new Due();

    public static void main(String[] args) {
        theClockAtWhichItRan();
        minusOneIfItNeverRan();
        wrongTargetsNeverStarted();
        onceStartedItStays();
        theClockAtWhichItWasDone();
        minusOneIfNotDone();
        wrongTargetsNeverFinished();
        doneWithoutRunning();
        neitherCallChangesAnything();
        due.end();
    }

    private static JobServer everyWayToEnd() {
        JobServer x = new JobServer(5, 1, 1);
        x.setTime(0, 4);
        x.setCommand(1, 2, false);
        x.setCommand(2, 3, true);
        x.addPrereq(3, 2, false);
        x.setTime(4, 4);
        x.addPrereq(4, 1, true);
        return x;
    }

    private static void theClockAtWhichItRan() {
        due.sentence("answers the clock value at which t became RUNNING.");
        JobServer x = new JobServer(3, 1, 0);
        x.setSubmake(1);
        x.setSub(2);
        x.addPrereq(1, 0, true);
        x.setCommand(0, 4, false);
        x.setCommand(2, 3, false);
        x.start();
        due.startedAt(x, 0, -1, -1);
        due.ticks(x, 0, 0, 0, 1);
        due.startedAt(x, 0, 4, 4);
        due.ticks(x, 0, 0, 2, -1);
        due.startedAt(x, 0, 4, 4);
    }

    private static void minusOneIfItNeverRan() {
        due.sentence("It answers -1 if t never ran");
        JobServer x = everyWayToEnd();
        due.startedAt(x, -1, -1, -1, -1, -1);
        x.start();
        due.startedAt(x, -1, 0, -1, -1, -1);
        due.ticks(x, 0, 1);
        due.startedAt(x, -1, 0, 2, -1, -1);
        due.ticks(x, 0, 0, 1, -1);
        due.startedAt(x, -1, 0, 2, -1, -1);
    }

    private static void wrongTargetsNeverStarted() {
        due.sentence("It answers -1 if t never ran or t is not in 0..n-1.");
        for (int n : new int[] {1, 6, 31, 32}) {
            JobServer x = new JobServer(n, 8, 1);
            x.start();
            x.tick();
            for (int w : Due.outside(n)) {
                due.leaves("startedAt(" + w + ")", x, s -> s.startedAt(w), -1);
            }
            due.is("startedAt the last", x.startedAt(n - 1), n <= 8 ? 0 : -1);
        }
    }

    private static void onceStartedItStays() {
        due.sentence("A target becomes RUNNING at most once, so this value, once set, never "
                + "changes.");
        JobServer x = new JobServer(6, 2, 1);
        x.setCommand(0, 4, false);
        x.setCommand(1, 2, true);
        x.setSubmake(2);
        x.setSub(3);
        x.setCommand(3, 3, true);
        int[] first = {-1, -1, -1, -1, -1, -1};
        x.start();
        for (int clock = 0; clock < 12; clock++) {
            for (int t = 0; t < 6; t++) {
                if (first[t] == -1 && x.status(t) == JobServer.STATUS_RUNNING) {
                    first[t] = clock;
                }
            }
            due.startedAt(x, first);
            x.tick();
        }
        due.startedAt(x, 0, 0, 2, 2, 4, 5);
    }

    private static void theClockAtWhichItWasDone() {
        due.sentence("answers the clock value at which t got a done status.");
        JobServer x = everyWayToEnd();
        x.start();
        due.finishedAt(x, 0, -1, -1, -1, -1);
        due.ticks(x, 0, 1);
        due.finishedAt(x, 0, 2, -1, -1, 2);
        due.ticks(x, 0, 0, 1, -1);
        due.finishedAt(x, 0, 2, 5, 5, 2);
        due.statuses("at the end", x, 3, 2, 4, 5, 3);
    }

    private static void minusOneIfNotDone() {
        due.sentence("It answers -1 if t has none");
        JobServer x = everyWayToEnd();
        due.finishedAt(x, -1, -1, -1, -1, -1);
        x.start();
        for (int clock = 0; clock < 6; clock++) {
            for (int t = 0; t < 5; t++) {
                boolean open = x.status(t) == JobServer.STATUS_WAITING
                        || x.status(t) == JobServer.STATUS_RUNNING;
                due.is("finishedAt(" + t + ") unset", x.finishedAt(t) == -1, open);
            }
            x.tick();
        }
    }

    private static void wrongTargetsNeverFinished() {
        due.sentence("It answers -1 if t has none or t is not in 0..n-1.");
        for (int n : new int[] {1, 6, 31, 32}) {
            JobServer x = new JobServer(n, 8, 1);
            x.start();
            Due.toTheEnd(x);
            for (int w : Due.outside(n)) {
                due.leaves("finishedAt(" + w + ")", x, s -> s.finishedAt(w), -1);
            }
            due.is("finishedAt the last", x.finishedAt(n - 1), (n + 7) / 8);
        }
    }

    /** Up to date at the start and later; skipped by a prerequisite, by step a and by step b. */
    private static void doneWithoutRunning() {
        due.sentence("Targets that become UPTODATE or SKIPPED without ever running have a "
                + "finishedAt but a startedAt of -1.");
        JobServer x = everyWayToEnd();
        x.start();
        Due.toTheEnd(x);
        due.is("finishedAt(0), up to date at the start", x.finishedAt(0), 0);
        due.is("startedAt(0)", x.startedAt(0), -1);
        due.is("finishedAt(4), up to date later", x.finishedAt(4), 2);
        due.is("startedAt(4)", x.startedAt(4), -1);
        due.is("finishedAt(3), skipped", x.finishedAt(3), 5);
        due.is("startedAt(3)", x.startedAt(3), -1);
        JobServer stopped = new JobServer(4, 1, 0);
        stopped.setSubmake(0);
        stopped.setSub(1);
        stopped.setSub(2);
        stopped.setCommand(1, 3, true);
        stopped.start();
        due.ticks(stopped, 0, 0, 1, 1, -1);
        due.startedAt(stopped, 0, 0, -1, -1);
        due.finishedAt(stopped, 4, 3, 3, 4);
    }

    private static void neitherCallChangesAnything() {
        due.sentence("Neither call changes anything.");
        JobServer x = everyWayToEnd();
        x.start();
        x.tick();
        for (int call = -40; call < 80; call++) {
            x.startedAt(call % 6);
            x.finishedAt(call % 6);
        }
        JobServer twin = everyWayToEnd();
        twin.start();
        twin.tick();
        due.sameCourse("looked at and not", x, twin);
        due.leavesCourse("startedAt", s -> s.startedAt(8));
        due.leavesCourse("startedAt of no target", s -> s.startedAt(12));
        due.leavesCourse("finishedAt", s -> s.finishedAt(8));
        due.leavesCourse("finishedAt of no target", s -> s.finishedAt(12));
    }
}
