/** The terms that bind promises 7 and 8: stale, and the rules and steps of SETTLE. */
public final class SettleTest {
    private static final Due due = new Due();

    public static void main(String[] args) {
        staleByTimes();
        staleByARemadePrerequisite();
        theSubmakeTargetIsAlwaysStale();
        subsAreSkippedWithTheSubmakeTarget();
        subsWaitForTheSubmakeTarget();
        badPrerequisitesOfEitherKindSkip();
        aBadPrerequisiteGoesBeforeAWaitingOne();
        bothKindsAreWaitedFor();
        afterAFailureNothingStarts();
        afterAFailureNothingIsMarkedUpToDate();
        keepGoingGoesOn();
        stepASkipsTheSubs();
        stepAWaitsForRunningSubs();
        stepBSkipsTheRest();
        stepBFollowsTheFailedSubmakeTarget();
        stepBWaitsForTheSubmakeTarget();
        due.end();
    }

    private static void staleByTimes() {
        int up = JobServer.STATUS_UPTODATE;
        int run = JobServer.STATUS_RUNNING;
        staleness(10, 10, false, up);
        staleness(10, 9, false, up);
        staleness(10, 11, false, run);
        staleness(10, 11, true, up);
        staleness(10, JobServer.MAX_TIME, true, up);
        staleness(0, 5, false, run);
        staleness(0, 5, true, run);
        staleness(1, 1, false, up);
        staleness(JobServer.MAX_TIME, JobServer.MAX_TIME, false, up);
    }

    private static void staleness(int time, int prereqTime, boolean orderOnly, int want) {
        JobServer x = new JobServer(2, 1, 0);
        x.addPrereq(0, 1, orderOnly);
        x.setTime(0, time);
        x.setTime(1, prereqTime);
        x.start();
        due.is("time " + time + " against " + prereqTime, x.status(0), want);
    }

    private static void staleByARemadePrerequisite() {
        JobServer x = new JobServer(4, 1, 0);
        x.addPrereq(1, 0, false);
        x.addPrereq(2, 0, true);
        x.addPrereq(3, 2, false);
        x.setTime(1, JobServer.MAX_TIME);
        x.setTime(2, 1);
        x.setTime(3, 1);
        x.start();
        due.ticks(x, 1);
        due.statuses("0 is remade", x, 2, 1, 3, 3);
        due.ticks(x, 1, -1);
        due.is("timeOf(1)", x.timeOf(1), 1000002);
    }

    private static void theSubmakeTargetIsAlwaysStale() {
        JobServer x = new JobServer(2, 1, 0);
        x.setSubmake(1);
        x.addPrereq(1, 0, true);
        x.setTime(0, 1);
        x.setTime(1, JobServer.MAX_TIME);
        x.start();
        due.statuses("at the start", x, 3, 1);
    }

    private static void subsAreSkippedWithTheSubmakeTarget() {
        JobServer x = new JobServer(5, 1, 1);
        x.setSubmake(2);
        x.setSub(0);
        x.setSub(3);
        x.setTime(0, 8);
        x.addPrereq(3, 0, false);
        x.addPrereq(2, 4, true);
        x.setCommand(4, 2, true);
        x.setTime(1, 3);
        x.start();
        due.ticks(x, 0);
        due.statuses("4 runs", x, 0, 3, 0, 0, 1);
        due.ticks(x, 1, -1);
        due.statuses("4 failed", x, 5, 3, 5, 5, 4);
        due.finishedAt(x, 2, 0, 2, 2, 2);
        due.startedAt(x, -1, -1, -1, -1, 0);
    }

    private static void subsWaitForTheSubmakeTarget() {
        JobServer x = new JobServer(4, 8, 0);
        x.setSubmake(3);
        x.setSub(0);
        x.setSub(1);
        x.setTime(1, 5);
        x.addPrereq(3, 2, true);
        x.start();
        due.statuses("before the sub-build", x, 0, 0, 1, 0);
        due.ticks(x, 1);
        due.statuses("in the sub-build", x, 1, 3, 2, 1);
        due.finishedAt(x, -1, 1, 1, -1);
        due.ticks(x, 2, -1);
    }

    private static void badPrerequisitesOfEitherKindSkip() {
        JobServer x = new JobServer(6, 8, 1);
        x.setCommand(5, 1, true);
        x.addPrereq(0, 1, true);
        x.addPrereq(1, 2, false);
        x.addPrereq(2, 5, true);
        x.addPrereq(3, 5, false);
        for (int t = 0; t < 4; t++) {
            x.setTime(t, 7);
        }
        x.start();
        due.statuses("at the start", x, 0, 0, 0, 0, 1, 1);
        due.is("tick()", x.tick(), 2);
        due.statuses("after it", x, 5, 5, 5, 5, 2, 4);
        due.finishedAt(x, 1, 1, 1, 1, 1, 1);
    }

    private static void aBadPrerequisiteGoesBeforeAWaitingOne() {
        JobServer x = new JobServer(4, 2, 1);
        x.setCommand(0, 5, false);
        x.setCommand(1, 1, true);
        x.addPrereq(2, 0, false);
        x.addPrereq(2, 1, true);
        x.addPrereq(3, 2, true);
        x.start();
        due.ticks(x, 1);
        due.statuses("0 still runs", x, 1, 4, 5, 5);
        due.finishedAt(x, -1, 1, 1, 1);
        due.ticks(x, 0, 0, 0, 1, -1);
    }

    private static void bothKindsAreWaitedFor() {
        JobServer x = new JobServer(4, 8, 0);
        x.setCommand(0, 2, false);
        x.addPrereq(1, 0, true);
        x.addPrereq(2, 0, false);
        x.addPrereq(3, 1, true);
        x.start();
        due.ticks(x, 0);
        due.statuses("0 runs", x, 1, 0, 0, 0);
        due.ticks(x, 1);
        due.statuses("0 is remade", x, 2, 1, 1, 0);
        due.ticks(x, 2, 1, -1);
        due.startedAt(x, 0, 2, 2, 3);
    }

    private static void afterAFailureNothingStarts() {
        JobServer x = new JobServer(5, 2, 0);
        x.setCommand(0, 1, true);
        x.setCommand(1, 3, false);
        x.addPrereq(2, 0, true);
        x.addPrereq(4, 1, false);
        x.start();
        due.statuses("at the start", x, 1, 1, 0, 0, 0);
        due.ticks(x, 1);
        due.statuses("1 still runs", x, 4, 1, 5, 0, 0);
        due.is("tokensFree()", x.tokensFree(), 1);
        due.ticks(x, 0, 1, -1);
        due.statuses("at the end", x, 4, 2, 5, 5, 5);
        due.startedAt(x, 0, 0, -1, -1, -1);
        due.finishedAt(x, 1, 3, 1, 3, 3);
        due.is("timeOf(1)", x.timeOf(1), 1000003);
    }

    private static void afterAFailureNothingIsMarkedUpToDate() {
        for (int keepGoing = 0; keepGoing <= 1; keepGoing++) {
            JobServer x = new JobServer(4, 3, keepGoing);
            x.setCommand(0, 1, true);
            x.setCommand(2, 2, false);
            x.addPrereq(3, 1, true);
            x.setTime(3, 5);
            x.start();
            due.statuses("at the start", x, 1, 1, 1, 0);
            due.ticks(x, 2);
            due.statuses("2 still runs", x, 4, 2, 1, keepGoing == 1 ? 3 : 0);
            due.ticks(x, 1, -1);
            due.statuses("at the end", x, 4, 2, 2, keepGoing == 1 ? 3 : 5);
            due.finishedAt(x, 1, 1, 2, keepGoing == 1 ? 1 : 2);
        }
    }

    private static void keepGoingGoesOn() {
        JobServer x = new JobServer(4, 1, 1);
        x.setCommand(0, 1, true);
        x.setCommand(2, 1, true);
        x.addPrereq(3, 1, false);
        x.start();
        due.ticks(x, 1, 1, 1, 1, -1);
        due.statuses("at the end", x, 4, 2, 4, 2);
        due.startedAt(x, 0, 1, 2, 3);
    }

    private static void stepASkipsTheSubs() {
        JobServer x = new JobServer(6, 2, 0);
        x.setSubmake(0);
        x.setCommand(1, 5, false);
        x.setSub(2);
        x.setCommand(2, 1, true);
        x.setSub(3);
        x.addPrereq(5, 0, false);
        x.start();
        due.statuses("at the start", x, 1, 1, 1, 0, 0, 0);
        due.ticks(x, 1);
        due.statuses("the sub target failed", x, 1, 1, 4, 5, 0, 0);
        due.ticks(x, 1);
        due.statuses("the sub-make target failed", x, 4, 1, 4, 5, 0, 5);
        due.ticks(x, 0, 0, 1, -1);
        due.statuses("at the end", x, 4, 2, 4, 5, 5, 5);
        due.finishedAt(x, 2, 5, 1, 1, 5, 2);
    }

    private static void stepAWaitsForRunningSubs() {
        JobServer x = new JobServer(6, 2, 0);
        x.setSubmake(0);
        for (int t = 1; t < 5; t++) {
            x.setSub(t);
        }
        x.setCommand(1, 1, true);
        x.setCommand(2, 3, false);
        x.setTime(4, 9);
        x.addPrereq(4, 3, true);
        x.start();
        due.statuses("at the start", x, 1, 1, 1, 0, 0, 0);
        due.ticks(x, 1, 0);
        due.statuses("2 still runs", x, 1, 4, 1, 0, 0, 0);
        due.ticks(x, 1);
        due.statuses("2 is remade", x, 1, 4, 2, 5, 5, 0);
        due.is("isQuiet()", x.isQuiet(), false);
        due.ticks(x, 1, -1);
        due.statuses("at the end", x, 4, 4, 2, 5, 5, 5);
        due.finishedAt(x, 4, 1, 3, 3, 3, 4);
    }

    private static void stepBSkipsTheRest() {
        JobServer x = new JobServer(5, 1, 0);
        x.setCommand(0, 2, true);
        x.setSubmake(2);
        x.setSub(1);
        x.setTime(4, 3);
        x.addPrereq(4, 3, true);
        x.start();
        due.ticks(x, 0);
        due.statuses("0 runs", x, 1, 0, 0, 0, 0);
        due.ticks(x, 1, -1);
        due.statuses("at the end", x, 4, 5, 5, 5, 5);
        due.finishedAt(x, 2, 2, 2, 2, 2);
        due.startedAt(x, 0, -1, -1, -1, -1);
    }

    private static void stepBFollowsTheFailedSubmakeTarget() {
        JobServer x = new JobServer(4, 1, 0);
        x.setSubmake(1);
        x.setSub(0);
        x.setSub(2);
        x.setCommand(0, 1, true);
        x.start();
        due.statuses("at the start", x, 0, 1, 1, 0);
        due.ticks(x, 1);
        due.statuses("2 is remade", x, 1, 1, 2, 0);
        due.ticks(x, 2, -1);
        due.statuses("at the end", x, 4, 4, 2, 5);
        due.finishedAt(x, 2, 2, 1, 2);
    }

    /** Nothing but the sub-make target runs after the first tick: that still is a running target. */
    private static void stepBWaitsForTheSubmakeTarget() {
        JobServer x = new JobServer(4, 1, 0);
        x.setSubmake(0);
        x.setSub(1);
        x.setSub(2);
        x.setCommand(1, 1, true);
        x.start();
        due.ticks(x, 1);
        due.statuses("1 failed", x, 1, 4, 5, 0);
        due.ticks(x, 1, -1);
        due.statuses("at the end", x, 4, 4, 5, 5);
        due.finishedAt(x, 2, 1, 1, 2);
    }
}
