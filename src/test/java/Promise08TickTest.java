/** Promise 8: one tick of time. The rules of SETTLE have a test of their own. */
public final class Promise08TickTest {
    private static final Due due = new Due();

    public static void main(String[] args) {
        refusedBeforeStart();
        refusedWhenQuiet();
        theClockMovesByOne();
        onlyRunningTargetsGoOn();
        theEndOfACommand();
        aFailedCommandKeepsItsTime();
        aRemadeTargetGetsAFreshTime();
        submakeEndsWithItsLastSub();
        submakeWaitsForEverySub();
        submakeFailsWithAFailedSub();
        submakeFailsWithASkippedSub();
        submakeIsRemadeWithGoodSubs();
        submakeWithoutSubs();
        theStepsGoInOrder();
        settleComesLast();
        onlyFinishedTargetsAreCounted();
        theGreatestAnswer();
        zeroWhenNothingFinished();
        everyDurationEndsInItsTick();
        theSubmakeDurationPlaysNoPart();
        theLongestBuild();
        due.end();
    }

    private static void refusedBeforeStart() {
        due.sentence("is refused (answers -1, changes nothing) if the build has not started");
        JobServer x = withTwoChains();
        for (int call = 0; call < 20; call++) {
            due.leaves("tick() before start()", x, s -> s.tick(), -1);
        }
        due.is("setTime, setup being open still", x.setTime(0, 0), true);
        due.sameCourse("with refused ticks and without", x, withTwoChains());
    }

    private static JobServer withTwoChains() {
        JobServer x = new JobServer(4, 2, 0);
        x.setCommand(0, 3, false);
        x.setCommand(1, 2, true);
        x.addPrereq(2, 0, false);
        x.addPrereq(3, 1, false);
        return x;
    }

    private static void refusedWhenQuiet() {
        due.sentence("or isQuiet() is true.");
        JobServer x = withTwoChains();
        x.start();
        due.ticks(x, 0, 1, 1);
        for (int call = 0; call < 20; call++) {
            due.leaves("tick() when quiet", x, s -> s.tick(), -1);
        }
        JobServer atOnce = new JobServer(1, 1, 0);
        atOnce.setTime(0, 1);
        atOnce.start();
        due.leaves("tick() when quiet at once", atOnce, s -> s.tick(), -1);
    }

    private static void theClockMovesByOne() {
        due.sentence("The clock becomes clock + 1; let c be the new value.");
        JobServer x = new JobServer(32, 1, 0);
        x.start();
        for (int clock = 1; clock <= 32; clock++) {
            due.is("tick()", x.tick(), 1);
            due.is("finishedAt", x.finishedAt(clock - 1), clock);
            due.is("startedAt of the next", x.startedAt(clock), clock < 32 ? clock : -1);
        }
    }

    private static void onlyRunningTargetsGoOn() {
        due.sentence("For t = 0..n-1 ascending, each RUNNING target other than the sub-make "
                + "target has its remaining time lowered by 1.");
        JobServer x = new JobServer(4, 2, 0);
        x.setCommand(0, 3, false);
        x.setCommand(1, 4, false);
        x.setCommand(2, 3, false);
        x.setCommand(3, 2, false);
        x.start();
        due.ticks(x, 0, 0, 1, 1, 0, 2, -1);
        due.startedAt(x, 0, 0, 3, 4);
        due.finishedAt(x, 3, 4, 6, 6);
    }

    private static void theEndOfACommand() {
        due.sentence("When the remaining time reaches 0, t finishes with finishedAt(t) = c.");
        JobServer x = new JobServer(32, 1, 0);
        for (int t = 0; t < 31; t++) {
            x.setTime(t, 1);
        }
        x.setCommand(31, 2, false);
        x.start();
        due.leaves("tick() no. 1", x, s -> s.tick(), 0);
        due.changes("tick() no. 2", x, s -> s.tick(), 1, "status(31)=2", "finishedAt(31)=2",
                "timeOf(31)=1000002", "isQuiet()=1");
    }

    private static void aFailedCommandKeepsItsTime() {
        due.sentence("If its command fails, t becomes FAILED and the failure flag is set; its "
                + "timestamp does not change.");
        JobServer x = new JobServer(4, 2, 0);
        x.setTime(0, 60);
        x.setTime(1, 50);
        x.addPrereq(1, 0, false);
        x.setCommand(1, 2, true);
        x.setCommand(2, 2, true);
        x.start();
        due.statuses("at the start", x, 3, 1, 1, 0);
        due.leaves("tick() no. 1", x, s -> s.tick(), 0);
        due.changes("tick() no. 2", x, s -> s.tick(), 2, "status(1)=4", "status(2)=4",
                "status(3)=5", "finishedAt(1)=2", "finishedAt(2)=2", "finishedAt(3)=2",
                "tokensFree()=1", "isQuiet()=1");
        due.is("timeOf(1), failed", x.timeOf(1), 50);
        due.is("timeOf(2), failed and missing", x.timeOf(2), 0);
    }

    private static void aRemadeTargetGetsAFreshTime() {
        due.sentence("Otherwise t becomes REMADE with timestamp STAMP_BASE + c.");
        JobServer x = new JobServer(3, 1, 0);
        x.setSubmake(1);
        x.setSub(2);
        x.setTime(2, 70);
        x.addPrereq(1, 0, false);
        x.setTime(0, 0);
        x.setTime(2, 0);
        x.setCommand(2, 3, false);
        x.start();
        due.changes("tick() no. 1", x, s -> s.tick(), 1, "status(0)=2", "timeOf(0)=1000001",
                "finishedAt(0)=1", "status(1)=1", "startedAt(1)=1", "status(2)=1",
                "startedAt(2)=1");
        due.ticks(x, 0, 0, 2, -1);
        due.is("timeOf(2), a sub target", x.timeOf(2), 1000004);
        due.is("timeOf(1), the sub-make target", x.timeOf(1), 1000004);
    }

    private static void submakeEndsWithItsLastSub() {
        due.sentence("Next, if the sub-make target is RUNNING and every sub target has a done "
                + "status, the sub-make target finishes with finishedAt = c.");
        for (int submake = 0; submake < 3; submake++) {
            JobServer x = new JobServer(3, 2, 0);
            x.setSubmake(submake);
            int first = submake == 0 ? 1 : 0;
            int last = submake == 2 ? 1 : 2;
            x.setSub(first);
            x.setSub(last);
            x.setCommand(first, 2, false);
            x.setCommand(last, 4, false);
            x.start();
            due.ticks(x, 0, 1, 0, 2, -1);
            due.is("finishedAt of the sub-make target", x.finishedAt(submake), 4);
            due.is("finishedAt of the first sub target", x.finishedAt(first), 2);
            due.is("finishedAt of the last sub target", x.finishedAt(last), 4);
        }
    }

    /** In turn a RUNNING and a WAITING sub target keep the sub-make target from its end. */
    private static void submakeWaitsForEverySub() {
        due.sentence("every sub target has a done status");
        JobServer x = new JobServer(5, 1, 0);
        x.setSubmake(2);
        x.setSub(0);
        x.setSub(1);
        x.setSub(4);
        x.setTime(1, 1);
        x.setCommand(0, 2, false);
        x.setTime(3, 1);
        x.start();
        due.statuses("at the start", x, 0, 3, 1, 3, 1);
        due.ticks(x, 1);
        due.statuses("0 was waiting", x, 1, 3, 1, 3, 2);
        due.ticks(x, 0);
        due.statuses("0 runs", x, 1, 3, 1, 3, 2);
        due.ticks(x, 2, -1);
        due.statuses("at the end", x, 2, 3, 2, 3, 2);
    }

    private static void submakeFailsWithAFailedSub() {
        due.sentence("It becomes FAILED (and the failure flag is set) if some sub target is "
                + "FAILED");
        for (int failing = 0; failing < 3; failing++) {
            JobServer x = new JobServer(5, 3, 1);
            x.setSubmake(3);
            for (int t = 0; t < 3; t++) {
                x.setSub(t);
                x.setCommand(t, 2, t == failing);
            }
            x.setTime(3, 44);
            x.addPrereq(4, 3, true);
            x.start();
            due.ticks(x, 0, 4, -1);
            due.is("status(3)", x.status(3), JobServer.STATUS_FAILED);
            due.is("timeOf(3)", x.timeOf(3), 44);
            due.is("finishedAt(3)", x.finishedAt(3), 2);
            due.is("status(4)", x.status(4), JobServer.STATUS_SKIPPED);
            due.is("finishedAt(4)", x.finishedAt(4), 2);
        }
    }

    /** The failure is a top target's, so only the skipped sub target makes the sub-make fail. */
    private static void submakeFailsWithASkippedSub() {
        due.sentence("if some sub target is FAILED or SKIPPED.");
        JobServer x = new JobServer(4, 2, 0);
        x.setSubmake(1);
        x.setSub(2);
        x.setSub(3);
        x.setCommand(0, 1, true);
        x.setCommand(2, 3, false);
        x.start();
        due.statuses("at the start", x, 1, 1, 1, 0);
        due.ticks(x, 1, 0, 1);
        due.statuses("when the last sub target ended", x, 4, 1, 2, 5);
        due.ticks(x, 1, -1);
        due.statuses("at the end", x, 4, 4, 2, 5);
        due.finishedAt(x, 1, 4, 3, 3);
        due.is("timeOf(1)", x.timeOf(1), 0);
    }

    private static void submakeIsRemadeWithGoodSubs() {
        due.sentence("Otherwise it becomes REMADE with timestamp STAMP_BASE + c.");
        JobServer upToDate = new JobServer(3, 1, 0);
        upToDate.setSubmake(1);
        upToDate.setSub(0);
        upToDate.setSub(2);
        upToDate.setTime(0, 5);
        upToDate.setTime(2, 5);
        upToDate.setTime(1, 5);
        upToDate.start();
        due.statuses("at the start", upToDate, 3, 1, 3);
        due.changes("tick()", upToDate, s -> s.tick(), 1, "status(1)=2", "timeOf(1)=1000001",
                "finishedAt(1)=1", "isQuiet()=1");
        JobServer mixed = new JobServer(3, 1, 1);
        mixed.setSubmake(1);
        mixed.setSub(0);
        mixed.setSub(2);
        mixed.setTime(0, 5);
        mixed.setCommand(2, 3, false);
        mixed.start();
        due.ticks(mixed, 0, 0, 2, -1);
        due.statuses("at the end", mixed, 3, 2, 2);
        due.is("timeOf(1)", mixed.timeOf(1), 1000003);
    }

    private static void submakeWithoutSubs() {
        due.sentence("This also holds when there are no sub targets.");
        JobServer x = new JobServer(2, 1, 0);
        x.setSubmake(0);
        x.setCommand(0, 15, true);
        x.setTime(0, 70);
        x.setTime(1, 70);
        x.addPrereq(1, 0, false);
        x.start();
        due.statuses("at the start", x, 1, 0);
        due.is("tick()", x.tick(), 1);
        due.statuses("after it", x, 2, 1);
        due.is("timeOf(0)", x.timeOf(0), 1000001);
        due.finishedAt(x, 1, -1);
        due.ticks(x, 1, -1);
        JobServer later = new JobServer(2, 1, 0);
        later.setSubmake(0);
        later.addPrereq(0, 1, true);
        later.setCommand(1, 4, false);
        later.start();
        due.ticks(later, 0, 0, 0, 1, 1, -1);
        due.startedAt(later, 4, 0);
        due.finishedAt(later, 5, 4);
    }

    /** 1 ends in step 2, so 0 in step 3, so 2 starts in step 4: all in one tick. */
    private static void theStepsGoInOrder() {
        due.sentence("Otherwise these steps happen in order:");
        JobServer x = new JobServer(4, 1, 1);
        x.setSubmake(0);
        x.setSub(1);
        x.setCommand(1, 3, false);
        x.addPrereq(2, 0, false);
        x.setTime(2, JobServer.MAX_TIME);
        x.setTime(3, 1);
        x.addPrereq(3, 0, true);
        x.start();
        due.statuses("at the start", x, 1, 1, 0, 0);
        due.ticks(x, 0, 0);
        due.statuses("1 still runs", x, 1, 1, 0, 0);
        due.changes("tick() no. 3", x, s -> s.tick(), 2, "status(1)=2", "finishedAt(1)=3",
                "timeOf(1)=1000003", "status(0)=2", "finishedAt(0)=3", "timeOf(0)=1000003",
                "status(2)=1", "startedAt(2)=3", "status(3)=3", "finishedAt(3)=3");
    }

    private static void settleComesLast() {
        due.sentence("SETTLE runs with this c.");
        JobServer x = new JobServer(3, 1, 0);
        x.setSubmake(0);
        x.setSub(1);
        x.start();
        due.statuses("at the start", x, 1, 1, 0);
        due.changes("tick()", x, s -> s.tick(), 2, "status(0)=2", "timeOf(0)=1000001",
                "finishedAt(0)=1", "status(1)=2", "timeOf(1)=1000001", "finishedAt(1)=1",
                "status(2)=1", "startedAt(2)=1");
        due.ticks(x, 1, -1);
    }

    private static void onlyFinishedTargetsAreCounted() {
        due.sentence("The answer is the number of targets that finished in steps 2 and 3; "
                + "targets that become UPTODATE or SKIPPED during SETTLE are not counted.");
        JobServer x = new JobServer(5, 2, 1);
        x.setCommand(0, 1, true);
        x.addPrereq(2, 0, false);
        x.addPrereq(3, 1, true);
        x.setTime(3, 9);
        x.addPrereq(4, 2, true);
        x.start();
        due.statuses("at the start", x, 1, 1, 0, 0, 0);
        due.is("tick()", x.tick(), 2);
        due.statuses("after it", x, 4, 2, 5, 3, 5);
        due.finishedAt(x, 1, 1, 1, 1, 1);
        JobServer stopped = new JobServer(32, 1, 0);
        stopped.setCommand(0, 1, true);
        stopped.start();
        due.is("tick(), 31 skipped by step b", stopped.tick(), 1);
    }

    private static void theGreatestAnswer() {
        due.sentence("The answer is the number of targets that finished in steps 2 and 3",
                "at most");
        JobServer subs = new JobServer(32, 8, 0);
        subs.setSubmake(0);
        for (int t = 1; t <= 8; t++) {
            subs.setSub(t);
        }
        subs.start();
        due.is("tick(), 8 sub targets and the sub-make target", subs.tick(), 9);
        due.is("tick(), 8 top targets", subs.tick(), 8);
        JobServer both = new JobServer(9, 8, 0);
        both.setSubmake(4);
        for (int t = 5; t <= 8; t++) {
            both.setSub(t);
        }
        both.start();
        due.is("tick(), 4 of each and the sub-make target", both.tick(), 9);
    }

    private static void zeroWhenNothingFinished() {
        due.sentence("The answer is 0 when nothing finished.");
        JobServer x = new JobServer(2, 2, 0);
        x.setCommand(0, 15, false);
        x.setCommand(1, 15, true);
        x.start();
        for (int tick = 1; tick < 15; tick++) {
            due.leaves("tick() no. " + tick, x, s -> s.tick(), 0);
        }
        due.is("tick() no. 15", x.tick(), 2);
    }

    private static void everyDurationEndsInItsTick() {
        due.sentence("A target other than the sub-make target, with duration d, that became "
                + "RUNNING at clock s finishes in the tick that moves the clock to s + d;");
        for (int duration = 1; duration <= JobServer.MAX_DURATION; duration++) {
            JobServer top = new JobServer(2, 1, 1);
            JobServer sub = new JobServer(3, 1, 1);
            sub.setSubmake(2);
            sub.setSub(0);
            sub.setSub(1);
            for (JobServer x : new JobServer[] {top, sub}) {
                x.setCommand(0, duration, true);
                x.setCommand(1, duration, false);
                x.start();
                int lastTick = 2 * duration;
                for (int tick = 1; tick <= lastTick; tick++) {
                    int submake = x == sub && tick == lastTick ? 1 : 0;
                    int want = (tick % duration == 0 ? 1 : 0) + submake;
                    due.is("duration " + duration, x.tick(), want);
                }
                due.startedAt(x, 0, duration);
                due.finishedAt(x, duration, lastTick);
            }
        }
    }

    private static void theSubmakeDurationPlaysNoPart() {
        due.sentence("the sub-make target's duration plays no part.");
        for (int own = 1; own <= JobServer.MAX_DURATION; own++) {
            for (int sub = 1; sub <= 3; sub++) {
                JobServer x = new JobServer(2, 1, 0);
                x.setSubmake(1);
                x.setSub(0);
                x.setCommand(1, own, false);
                x.setCommand(0, sub, false);
                x.start();
                Due.toTheEnd(x);
                due.finishedAt(x, sub, sub);
            }
        }
    }

    private static void theLongestBuild() {
        due.sentence("STAMP_BASE + c", "the greatest c there can be");
        JobServer x = new JobServer(32, 1, 0);
        for (int t = 0; t < 32; t++) {
            x.setCommand(t, 15, false);
        }
        x.start();
        int ticks = 0;
        while (ticks < 1000 && x.tick() >= 0) {
            ticks++;
        }
        due.is("ticks of the longest build", ticks, 480);
        for (int t = 0; t < 32; t++) {
            due.is("startedAt(" + t + ")", x.startedAt(t), 15 * t);
            due.is("finishedAt(" + t + ")", x.finishedAt(t), 15 * t + 15);
            due.is("timeOf(" + t + ")", x.timeOf(t), 1000015 + 15 * t);
        }
    }
}
