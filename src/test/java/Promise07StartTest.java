/** Promise 7: starting the build. */
public final class Promise07StartTest {
    private static final Due due = new Due();

    public static void main(String[] args) {
        startIsRefusedTwice();
        aRefusedStartChangesNothing();
        theClockIsZero();
        settleRunsWithinStart();
        setupIsRefusedAfterwards();
        nothingIsSkippedAtTheStart();
        upToDateAtTheStart();
        runningAtTheStart();
        allOthersStayWaiting();
        theSmallestBuild();
        due.end();
    }

    private static void startIsRefusedTwice() {
        due.sentence("is refused (answers false, changes nothing) if the build has already "
                + "started.");
        JobServer x = new JobServer(2, 1, 0);
        x.setCommand(0, 2, false);
        due.is("start()", x.start(), true);
        due.refuses("start() again", x, s -> s.start());
        due.ticks(x, 0);
        due.refuses("start() in the midst", x, s -> s.start());
        due.ticks(x, 1, 1, -1);
        due.refuses("start() when quiet", x, s -> s.start());
        due.finishedAt(x, 2, 3);
        JobServer quietAtOnce = new JobServer(1, 1, 0);
        quietAtOnce.setTime(0, 1);
        due.is("start(), quiet at once", quietAtOnce.start(), true);
        due.refuses("start() again", quietAtOnce, s -> s.start());
    }

    /** A second start() could set back the clock or the failure flag, or settle once more. */
    private static void aRefusedStartChangesNothing() {
        due.sentence("(answers false, changes nothing)");
        for (int keepGoing = 0; keepGoing <= 1; keepGoing++) {
            JobServer x = withAFailure(keepGoing);
            JobServer twin = withAFailure(keepGoing);
            x.start();
            twin.start();
            for (int tick = 0; tick < 12; tick++) {
                due.refuses("start() at " + tick, x, s -> s.start());
                due.is("tick()", x.tick(), twin.tick());
            }
            due.sameCourse("with refused starts and without", x, twin);
        }
        due.leavesCourse("start()", s -> s.start());
    }

    private static JobServer withAFailure(int keepGoing) {
        JobServer x = new JobServer(6, 2, keepGoing);
        x.setCommand(0, 2, true);
        x.setCommand(1, 5, false);
        x.setSubmake(3);
        x.setSub(4);
        x.addPrereq(5, 1, false);
        return x;
    }

    private static void theClockIsZero() {
        due.sentence("it marks the build started with clock 0, runs SETTLE with c = 0, and "
                + "answers true.");
        JobServer x = new JobServer(3, 1, 0);
        x.setTime(1, 5);
        due.ticks(x, -1, -1, -1);
        due.is("start()", x.start(), true);
        due.startedAt(x, 0, -1, -1);
        due.finishedAt(x, -1, 0, -1);
        due.ticks(x, 1);
        due.finishedAt(x, 1, 0, -1);
        due.startedAt(x, 0, -1, 1);
    }

    private static void settleRunsWithinStart() {
        due.sentence("SETTLE runs at the end of start() and at the end of every tick().",
                "start()");
        JobServer x = new JobServer(5, 2, 0);
        x.setTime(0, 3);
        x.setTime(1, 3);
        x.addPrereq(1, 0, false);
        x.addPrereq(4, 2, false);
        due.changes("start()", x, s -> s.start(), true, "status(0)=3", "status(1)=3",
                "status(2)=1", "status(3)=1", "finishedAt(0)=0", "finishedAt(1)=0",
                "startedAt(2)=0", "startedAt(3)=0", "tokensFree()=0");
    }

    private static void setupIsRefusedAfterwards() {
        due.sentence("From then on all setup calls (addPrereq, setTime, setCommand, setSubmake, "
                + "setSub) are refused.");
        JobServer x = new JobServer(4, 1, 0);
        x.setSubmake(0);
        JobServer without = new JobServer(4, 1, 0);
        x.start();
        without.start();
        for (int tick = 0; tick < 6; tick++) {
            due.refuses("addPrereq", x, s -> s.addPrereq(2, 1, false));
            due.refuses("addPrereq", x, s -> s.addPrereq(2, 1, true));
            due.refuses("setTime", x, s -> s.setTime(2, 1));
            due.refuses("setCommand", x, s -> s.setCommand(2, 2, true));
            due.refuses("setSubmake", without, s -> s.setSubmake(2));
            due.refuses("setSub", x, s -> s.setSub(2));
            x.tick();
            without.tick();
        }
    }

    private static void nothingIsSkippedAtTheStart() {
        due.sentence("The failure flag is still clear during this SETTLE, so no target is "
                + "skipped by steps a and b here;");
        JobServer x = new JobServer(5, 1, 0);
        for (int t = 0; t < 5; t++) {
            x.setCommand(t, 1, true);
        }
        x.setSubmake(0);
        x.setSub(1);
        x.setSub(2);
        x.addPrereq(4, 3, false);
        x.start();
        due.statuses("at the start", x, 1, 1, 0, 0, 0);
        JobServer upToDate = new JobServer(2, 1, 0);
        upToDate.setCommand(0, 1, true);
        upToDate.setTime(0, 1);
        upToDate.start();
        due.statuses("a command that is not run does not fail", upToDate, 3, 1);
    }

    private static void upToDateAtTheStart() {
        due.sentence("targets that reach rule 6 become UPTODATE with finishedAt 0");
        JobServer x = new JobServer(32, 1, 0);
        for (int t = 0; t < 32; t++) {
            x.setTime(t, 1);
        }
        due.is("start()", x.start(), true);
        for (int t = 0; t < 32; t++) {
            due.is("status(" + t + ")", x.status(t), JobServer.STATUS_UPTODATE);
            due.is("finishedAt(" + t + ")", x.finishedAt(t), 0);
            due.is("startedAt(" + t + ")", x.startedAt(t), -1);
        }
        due.is("isQuiet()", x.isQuiet(), true);
        due.leaves("tick()", x, s -> s.tick(), -1);
    }

    private static void runningAtTheStart() {
        due.sentence("targets that reach rule 7 and may start become RUNNING with startedAt 0;");
        for (int limit = 1; limit <= 8; limit++) {
            JobServer x = new JobServer(32, limit, 0);
            x.start();
            for (int t = 0; t < 32; t++) {
                due.is("status(" + t + ")", x.status(t), t < limit ? 1 : 0);
                due.is("startedAt(" + t + ")", x.startedAt(t), t < limit ? 0 : -1);
                due.is("finishedAt(" + t + ")", x.finishedAt(t), -1);
            }
        }
    }

    private static void allOthersStayWaiting() {
        due.sentence("all others stay WAITING.");
        JobServer x = new JobServer(6, 1, 0);
        x.setSubmake(1);
        x.setSub(2);
        x.setTime(2, 1);
        x.addPrereq(3, 0, false);
        x.addPrereq(4, 0, true);
        x.setTime(4, 1);
        x.start();
        due.statuses("at the start", x, 1, 0, 0, 0, 0, 0);
        due.startedAt(x, 0, -1, -1, -1, -1, -1);
        due.finishedAt(x, -1, -1, -1, -1, -1, -1);
    }

    private static void theSmallestBuild() {
        due.sentence("Otherwise it marks the build started", "one target alone");
        JobServer top = new JobServer(1, 1, 0);
        due.is("start()", top.start(), true);
        due.statuses("a top target", top, 1);
        due.ticks(top, 1, -1);
        JobServer submake = new JobServer(1, 1, 0);
        submake.setSubmake(0);
        due.is("start()", submake.start(), true);
        due.statuses("a sub-make target", submake, 1);
        due.ticks(submake, 1, -1);
        due.statuses("a sub-make target, remade", submake, 2);
    }
}
