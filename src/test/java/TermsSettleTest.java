/** Terms of the document: SETTLE with its rules 1 to 8 and its steps a and b. */
public final class TermsSettleTest {
    private static final Due due = new Due();

    public static void main(String[] args) {
        settleRunsInEveryTick();
        passesGoOnAfterUpToDate();
        passesGoOnAfterSkipped();
        passesGoOnAfterRunning();
        asManyPassesAsThereCanBe();
        aPassGoesUpwards();
        rule1SkipsSubsAtOnce();
        rule1IsForSubsAlone();
        rule1GoesBeforeAllOthers();
        rule2LetsSubsWait();
        rule3SkipsOverEitherKind();
        rule3GoesBeforeRule4();
        rule3GoesBeforeRule5();
        rule4WaitsForEitherKind();
        rule5LetsNothingStart();
        rule5GoesBeforeRule6();
        rule5NeedsBoth();
        rule6NeedsNoToken();
        rule7StartsWithAllItsTime();
        rule7GivesTheSubmakeTargetNoTime();
        rule8LetsTheRestWait();
        othersAreLeftAsTheyAre();
        everyDoneStatusHasItsClock();
        stepASkipsTheSubs();
        stepAWaitsForRunningSubs();
        stepANeedsARunningSubmakeTarget();
        stepBSkipsTheRest();
        stepBWaitsForTheSubmakeTarget();
        stepBFollowsTheFailedSubmakeTarget();
        stepsNeedAFailure();
        stepsNeedKeepGoingOff();
        theSubmakeTargetEndsATickAfterStepA();
        due.end();
    }

    /** A chain, in which each tick has one thing to settle: it starts, is up to date or skipped. */
    private static void settleRunsInEveryTick() {
        due.sentence("SETTLE runs at the end of start() and at the end of every tick().",
                "tick()");
        JobServer x = new JobServer(7, 1, 1);
        for (int t = 1; t < 7; t++) {
            x.addPrereq(t, t - 1, t % 2 == 0);
        }
        x.setTime(2, 1);
        x.setCommand(5, 1, true);
        x.start();
        due.statuses("at the start", x, 1, 0, 0, 0, 0, 0, 0);
        due.ticks(x, 1);
        due.statuses("1 starts", x, 2, 1, 0, 0, 0, 0, 0);
        due.ticks(x, 1);
        due.statuses("2 is up to date, 3 starts", x, 2, 2, 3, 1, 0, 0, 0);
        due.ticks(x, 1);
        due.statuses("4 starts", x, 2, 2, 3, 2, 1, 0, 0);
        due.ticks(x, 1);
        due.statuses("5 starts", x, 2, 2, 3, 2, 2, 1, 0);
        due.ticks(x, 1);
        due.statuses("6 is skipped", x, 2, 2, 3, 2, 2, 4, 5);
        due.startedAt(x, 0, 1, -1, 2, 3, 4, -1);
        due.finishedAt(x, 1, 2, 2, 3, 4, 5, 5);
    }

    private static void passesGoOnAfterUpToDate() {
        due.sentence("Passes are repeated until a pass changes no status;", "UPTODATE");
        JobServer x = new JobServer(4, 1, 0);
        x.addPrereq(0, 1, false);
        x.addPrereq(1, 2, true);
        x.addPrereq(2, 3, false);
        for (int t = 1; t < 4; t++) {
            x.setTime(t, 5);
        }
        x.start();
        due.statuses("at the start", x, 1, 3, 3, 3);
        due.startedAt(x, 0, -1, -1, -1);
        due.finishedAt(x, -1, 0, 0, 0);
    }

    private static void passesGoOnAfterSkipped() {
        due.sentence("Passes are repeated until a pass changes no status;", "SKIPPED");
        for (int keepGoing = 0; keepGoing <= 1; keepGoing++) {
            JobServer x = new JobServer(5, 2, keepGoing);
            x.addPrereq(0, 1, true);
            x.addPrereq(1, 2, false);
            x.addPrereq(2, 3, true);
            x.setCommand(3, 1, true);
            x.setCommand(4, 5, false);
            x.start();
            due.ticks(x, 1);
            due.statuses("3 failed", x, 5, 5, 5, 4, 1);
            due.finishedAt(x, 1, 1, 1, 1, -1);
        }
    }

    private static void passesGoOnAfterRunning() {
        due.sentence("Passes are repeated until a pass changes no status;", "RUNNING");
        JobServer x = new JobServer(3, 1, 0);
        x.setSubmake(2);
        x.setSub(0);
        x.setSub(1);
        x.setTime(0, 1);
        x.addPrereq(0, 1, true);
        x.setTime(1, 1);
        x.start();
        due.statuses("at the start", x, 3, 3, 1);
        due.finishedAt(x, 0, 0, -1);
    }

    private static void asManyPassesAsThereCanBe() {
        due.sentence("there are at most n+1 passes.");
        for (int n = 1; n <= 32; n++) {
            JobServer upToDate = new JobServer(n, 1, 0);
            JobServer skipped = new JobServer(n, 1, 1);
            JobServer nested = new JobServer(n, 1, 0);
            nested.setSubmake(n - 1);
            for (int t = 0; t < n; t++) {
                upToDate.setTime(t, 1);
                nested.setTime(t, 1);
                nested.setSub(t);
                upToDate.addPrereq(t, t + 1, t % 2 == 0);
                skipped.addPrereq(t, t + 1, t % 2 == 0);
                nested.addPrereq(t, t + 1, t % 2 == 0);
            }
            skipped.setCommand(n - 1, 1, true);
            upToDate.start();
            skipped.start();
            skipped.tick();
            nested.start();
            for (int t = 0; t < n; t++) {
                boolean last = t == n - 1;
                due.is("up to date: status(" + t + ") of " + n, upToDate.status(t), 3);
                due.is("skipped: status(" + t + ") of " + n, skipped.status(t), last ? 4 : 5);
                due.is("nested: status(" + t + ") of " + n, nested.status(t), last ? 1 : 3);
            }
        }
    }

    private static void aPassGoesUpwards() {
        due.sentence("A pass visits t = 0..n-1 in ascending order.");
        JobServer x = new JobServer(4, 2, 0);
        x.setTime(3, 1);
        x.addPrereq(0, 3, true);
        x.start();
        due.statuses("1 and 2 are met before 0 is free to start", x, 0, 1, 1, 3);
        due.ticks(x, 2);
        due.statuses("0 comes next", x, 1, 2, 2, 3);
        JobServer all = new JobServer(32, 1, 0);
        all.start();
        Due.toTheEnd(all);
        for (int t = 0; t < 32; t++) {
            due.is("startedAt(" + t + ")", all.startedAt(t), t);
        }
    }

    private static void rule1SkipsSubsAtOnce() {
        due.sentence("t is sub and the sub-make target is SKIPPED: t becomes SKIPPED.");
        for (int keepGoing = 0; keepGoing <= 1; keepGoing++) {
            JobServer x = new JobServer(6, 2, keepGoing);
            x.setSubmake(2);
            x.setSub(0);
            x.setSub(3);
            x.setTime(0, 8);
            x.addPrereq(2, 4, true);
            x.setCommand(4, 2, true);
            x.setTime(1, 3);
            x.setCommand(5, 9, false);
            x.start();
            due.ticks(x, 0);
            due.statuses("4 runs", x, 0, 3, 0, 0, 1, 1);
            due.ticks(x, 1);
            due.statuses("4 failed, 5 still runs", x, 5, 3, 5, 5, 4, 1);
            due.finishedAt(x, 2, 0, 2, 2, 2, -1);
            due.startedAt(x, -1, -1, -1, -1, 0, 0);
        }
    }

    private static void rule1IsForSubsAlone() {
        due.sentence("t is sub and the sub-make target is SKIPPED", "top targets go on");
        JobServer x = new JobServer(6, 1, 1);
        x.setSubmake(1);
        x.setSub(2);
        x.addPrereq(1, 0, false);
        x.setCommand(0, 1, true);
        x.setTime(4, 1);
        x.addPrereq(4, 3, true);
        x.start();
        due.statuses("at the start", x, 1, 0, 0, 0, 0, 0);
        due.ticks(x, 1);
        due.statuses("the sub-make target is skipped", x, 4, 5, 5, 1, 0, 0);
        due.ticks(x, 1, 1, -1);
        due.statuses("at the end", x, 4, 5, 5, 2, 3, 2);
        due.finishedAt(x, 1, 1, 1, 2, 2, 3);
    }

    /** The sub targets are up to date or wait for one another: rules 4, 5 and 6 would apply too. */
    private static void rule1GoesBeforeAllOthers() {
        due.sentence("For each t whose status is WAITING, the first rule that applies is used:",
                "rule 1");
        JobServer x = new JobServer(6, 2, 1);
        x.setSubmake(4);
        x.addPrereq(4, 5, false);
        x.setCommand(5, 1, true);
        for (int t = 0; t < 4; t++) {
            x.setSub(t);
        }
        x.setTime(0, 1);
        x.setTime(1, 1);
        x.addPrereq(1, 2, false);
        x.addPrereq(2, 3, true);
        x.start();
        due.ticks(x, 1, -1);
        due.statuses("at the end", x, 5, 5, 5, 5, 5, 4);
        due.finishedAt(x, 1, 1, 1, 1, 1, 1);
    }

    private static void rule2LetsSubsWait() {
        due.sentence("t is sub and the sub-make target is not RUNNING: nothing happens.");
        JobServer x = new JobServer(4, 8, 0);
        x.setSubmake(3);
        x.setSub(0);
        x.setSub(1);
        x.setTime(1, 5);
        x.addPrereq(3, 2, true);
        x.setCommand(2, 2, false);
        x.start();
        due.statuses("before the sub-build", x, 0, 0, 1, 0);
        due.ticks(x, 0);
        due.statuses("still before it", x, 0, 0, 1, 0);
        due.ticks(x, 1);
        due.statuses("in the sub-build", x, 1, 3, 2, 1);
        due.finishedAt(x, -1, 2, 2, -1);
        due.ticks(x, 2, -1);
    }

    private static void rule3SkipsOverEitherKind() {
        due.sentence("some prerequisite of either kind is FAILED or SKIPPED: t becomes SKIPPED.");
        JobServer x = new JobServer(6, 8, 1);
        x.setCommand(5, 1, true);
        x.addPrereq(0, 1, true);
        x.addPrereq(1, 2, false);
        x.addPrereq(2, 5, true);
        x.addPrereq(3, 5, false);
        for (int t = 0; t < 4; t++) {
            x.setTime(t, 7);
        }
        x.start();
        due.statuses("at the start", x, 0, 0, 0, 0, 1, 1);
        due.is("tick()", x.tick(), 2);
        due.statuses("after it", x, 5, 5, 5, 5, 2, 4);
        due.finishedAt(x, 1, 1, 1, 1, 1, 1);
        JobServer sub = new JobServer(4, 1, 1);
        sub.setSubmake(0);
        for (int t = 1; t < 4; t++) {
            sub.setSub(t);
        }
        sub.setCommand(3, 1, true);
        sub.addPrereq(1, 2, false);
        sub.addPrereq(2, 3, true);
        sub.start();
        due.ticks(sub, 1);
        due.statuses("within the sub-build", sub, 1, 5, 5, 4);
        due.ticks(sub, 1, -1);
        due.statuses("the sub-make target", sub, 4, 5, 5, 4);
    }

    private static void rule3GoesBeforeRule4() {
        due.sentence("some prerequisite of either kind is FAILED or SKIPPED", "before rule 4");
        JobServer x = new JobServer(4, 2, 1);
        x.setCommand(0, 5, false);
        x.setCommand(1, 1, true);
        x.addPrereq(2, 0, false);
        x.addPrereq(2, 1, true);
        x.addPrereq(3, 2, true);
        x.start();
        due.ticks(x, 1);
        due.statuses("0 still runs", x, 1, 4, 5, 5);
        due.finishedAt(x, -1, 1, 1, 1);
        due.ticks(x, 0, 0, 0, 1, -1);
    }

    private static void rule3GoesBeforeRule5() {
        due.sentence("some prerequisite of either kind is FAILED or SKIPPED", "before rule 5");
        JobServer x = new JobServer(4, 2, 0);
        x.setCommand(0, 1, true);
        x.setCommand(1, 3, false);
        x.addPrereq(2, 0, true);
        x.start();
        due.ticks(x, 1);
        due.statuses("2 is skipped at once, 3 waits", x, 4, 1, 5, 0);
        due.finishedAt(x, 1, -1, 1, -1);
    }

    private static void rule4WaitsForEitherKind() {
        due.sentence("some prerequisite is WAITING or RUNNING: nothing happens.");
        JobServer x = new JobServer(5, 8, 0);
        x.setCommand(0, 2, false);
        x.addPrereq(1, 0, true);
        x.addPrereq(2, 0, false);
        x.addPrereq(3, 1, true);
        x.setTime(4, 1);
        x.addPrereq(4, 1, true);
        x.start();
        due.ticks(x, 0);
        due.statuses("0 runs, 1 waits", x, 1, 0, 0, 0, 0);
        due.ticks(x, 1);
        due.statuses("0 is remade, 1 runs", x, 2, 1, 1, 0, 0);
        due.ticks(x, 2);
        due.statuses("1 is remade", x, 2, 2, 2, 1, 3);
        due.ticks(x, 1, -1);
        due.startedAt(x, 0, 2, 2, 3, -1);
    }

    private static void rule5LetsNothingStart() {
        due.sentence("keep-going is off and the failure flag is set: nothing happens.");
        JobServer x = new JobServer(5, 2, 0);
        x.setCommand(0, 1, true);
        x.setCommand(1, 3, false);
        x.addPrereq(2, 0, true);
        x.addPrereq(4, 1, false);
        x.start();
        due.statuses("at the start", x, 1, 1, 0, 0, 0);
        due.ticks(x, 1);
        due.statuses("1 still runs", x, 4, 1, 5, 0, 0);
        due.is("tokensFree()", x.tokensFree(), 1);
        due.ticks(x, 0, 1, -1);
        due.statuses("at the end", x, 4, 2, 5, 5, 5);
        due.startedAt(x, 0, 0, -1, -1, -1);
        due.finishedAt(x, 1, 3, 1, 3, 3);
        due.is("timeOf(1)", x.timeOf(1), 1000003);
    }

    private static void rule5GoesBeforeRule6() {
        due.sentence("Without keep-going, after a failure no target starts or is marked up to "
                + "date.");
        JobServer x = afterAFailure(0);
        due.statuses("2 still runs", x, 4, 2, 1, 0);
        due.ticks(x, 1, -1);
        due.statuses("at the end", x, 4, 2, 2, 5);
        due.finishedAt(x, 1, 1, 2, 2);
    }

    private static void rule5NeedsBoth() {
        due.sentence("keep-going is off and the failure flag is set", "both");
        JobServer keepGoing = afterAFailure(1);
        due.statuses("2 still runs", keepGoing, 4, 2, 1, 3);
        due.ticks(keepGoing, 1, -1);
        due.statuses("at the end", keepGoing, 4, 2, 2, 3);
        due.finishedAt(keepGoing, 1, 1, 2, 1);
        JobServer starting = new JobServer(4, 1, 1);
        starting.setCommand(0, 1, true);
        starting.setCommand(2, 1, true);
        starting.addPrereq(3, 1, false);
        starting.start();
        due.ticks(starting, 1, 1, 1, 1, -1);
        due.statuses("at the end", starting, 4, 2, 4, 2);
        due.startedAt(starting, 0, 1, 2, 3);
        JobServer noFailure = new JobServer(2, 1, 0);
        noFailure.start();
        due.ticks(noFailure, 1, 1, -1);
        due.statuses("without a failure", noFailure, 2, 2);
    }

    private static JobServer afterAFailure(int keepGoing) {
        JobServer x = new JobServer(4, 3, keepGoing);
        x.setCommand(0, 1, true);
        x.setCommand(2, 2, false);
        x.addPrereq(3, 1, true);
        x.setTime(3, 5);
        x.start();
        due.statuses("at the start", x, 1, 1, 1, 0);
        due.ticks(x, 2);
        return x;
    }

    private static void rule6NeedsNoToken() {
        due.sentence("t is not stale: t becomes UPTODATE.");
        JobServer x = new JobServer(5, 1, 0);
        x.setTime(1, 1);
        x.setTime(2, 1);
        x.addPrereq(2, 1, false);
        x.setTime(4, 1);
        x.addPrereq(4, 0, true);
        x.start();
        due.statuses("no token is free", x, 1, 3, 3, 0, 0);
        due.finishedAt(x, -1, 0, 0, -1, -1);
        due.ticks(x, 1);
        due.statuses("no token is free either", x, 2, 3, 3, 1, 3);
        due.finishedAt(x, 1, 0, 0, -1, 1);
    }

    private static void rule7StartsWithAllItsTime() {
        due.sentence("t may start (see Tokens): t becomes RUNNING, startedAt(t) = c, and its "
                + "remaining time becomes its duration");
        JobServer x = new JobServer(3, 1, 0);
        x.setCommand(0, 4, false);
        x.setCommand(1, 15, false);
        x.setCommand(2, 2, false);
        x.start();
        due.startedAt(x, 0, -1, -1);
        due.ticks(x, 0, 0, 0, 1);
        due.startedAt(x, 0, 4, -1);
        due.ticks(x, 0, 0, 0, 0, 0, 0, 0, 0, 0, 0, 0, 0, 0, 0, 1);
        due.startedAt(x, 0, 4, 19);
        due.ticks(x, 0, 1, -1);
        due.finishedAt(x, 4, 19, 21);
    }

    private static void rule7GivesTheSubmakeTargetNoTime() {
        due.sentence("its duration (the sub-make target has none).");
        for (int duration = 1; duration <= JobServer.MAX_DURATION; duration++) {
            JobServer x = new JobServer(3, 1, 0);
            x.setSubmake(0);
            x.setCommand(0, duration, false);
            x.setSub(1);
            x.setCommand(1, 5, false);
            x.start();
            due.startedAt(x, 0, 0, -1);
            due.ticks(x, 0, 0, 0, 0, 2, 1, -1);
            due.finishedAt(x, 5, 5, 6);
        }
    }

    private static void rule8LetsTheRestWait() {
        due.sentence("otherwise nothing happens.");
        JobServer x = new JobServer(3, 1, 0);
        x.setSubmake(1);
        x.setCommand(0, 3, false);
        x.start();
        for (int clock = 0; clock < 3; clock++) {
            due.statuses("no token at " + clock, x, 1, 0, 0);
            due.startedAt(x, 0, -1, -1);
            due.finishedAt(x, -1, -1, -1);
            x.tick();
        }
        due.statuses("the next one", x, 2, 1, 0);
    }

    private static void othersAreLeftAsTheyAre() {
        due.sentence("Targets that are not WAITING are left as they are by the passes.");
        JobServer x = new JobServer(6, 3, 1);
        x.setCommand(0, 8, false);
        x.setCommand(2, 1, true);
        x.setTime(3, 1);
        x.addPrereq(4, 2, false);
        x.addPrereq(5, 0, true);
        x.start();
        x.tick();
        for (int clock = 1; clock < 7; clock++) {
            due.statuses("at " + clock, x, 1, 2, 4, 3, 5, 0);
            due.leaves("tick()", x, s -> s.tick(), 0);
        }
        due.changes("tick() at 8", x, s -> s.tick(), 1, "status(0)=2", "finishedAt(0)=8",
                "timeOf(0)=1000008", "status(5)=1", "startedAt(5)=8");
    }

    private static void everyDoneStatusHasItsClock() {
        due.sentence("Every change to a done status sets finishedAt(t) = c.");
        JobServer x = new JobServer(6, 2, 1);
        x.setCommand(0, 3, true);
        x.setCommand(1, 2, false);
        x.addPrereq(2, 0, false);
        x.setTime(3, 1);
        x.addPrereq(3, 1, true);
        x.setTime(4, 1);
        x.start();
        due.finishedAt(x, -1, -1, -1, -1, 0, -1);
        due.ticks(x, 0, 1);
        due.finishedAt(x, -1, 2, -1, 2, 0, -1);
        due.ticks(x, 2, -1);
        due.finishedAt(x, 3, 2, 3, 2, 0, 3);
        due.statuses("at the end", x, 4, 2, 5, 3, 3, 2);
    }

    private static void stepASkipsTheSubs() {
        due.sentence("if the sub-make target is RUNNING and no sub target is RUNNING, every "
                + "WAITING sub target becomes SKIPPED;");
        JobServer x = new JobServer(7, 2, 0);
        x.setSubmake(1);
        x.setCommand(2, 5, false);
        x.setSub(0);
        x.setSub(3);
        x.setSub(6);
        x.setTime(6, 1);
        x.addPrereq(6, 0, true);
        x.setCommand(3, 1, true);
        x.addPrereq(5, 1, false);
        x.start();
        due.statuses("at the start", x, 0, 1, 1, 1, 0, 0, 0);
        due.ticks(x, 1);
        due.statuses("the sub target failed", x, 5, 1, 1, 4, 0, 0, 5);
        due.finishedAt(x, 1, -1, -1, 1, -1, -1, 1);
        due.ticks(x, 1);
        due.statuses("the sub-make target failed", x, 5, 4, 1, 4, 0, 5, 5);
        due.ticks(x, 0, 0, 1, -1);
        due.statuses("at the end", x, 5, 4, 2, 4, 5, 5, 5);
        due.finishedAt(x, 1, 2, 5, 1, 5, 2, 1);
    }

    private static void stepAWaitsForRunningSubs() {
        due.sentence("and no sub target is RUNNING");
        JobServer x = new JobServer(6, 2, 0);
        x.setSubmake(0);
        for (int t = 1; t < 5; t++) {
            x.setSub(t);
        }
        x.setCommand(1, 1, true);
        x.setCommand(2, 3, false);
        x.setTime(4, 9);
        x.addPrereq(4, 3, true);
        x.start();
        due.statuses("at the start", x, 1, 1, 1, 0, 0, 0);
        due.ticks(x, 1, 0);
        due.statuses("2 still runs", x, 1, 4, 1, 0, 0, 0);
        due.ticks(x, 1);
        due.statuses("2 is remade", x, 1, 4, 2, 5, 5, 0);
        due.is("isQuiet()", x.isQuiet(), false);
        due.ticks(x, 1, -1);
        due.statuses("at the end", x, 4, 4, 2, 5, 5, 5);
        due.finishedAt(x, 4, 1, 3, 3, 3, 4);
    }

    private static void stepANeedsARunningSubmakeTarget() {
        due.sentence("if the sub-make target is RUNNING");
        JobServer x = new JobServer(4, 2, 0);
        x.setCommand(0, 1, true);
        x.setCommand(1, 3, false);
        x.setSubmake(2);
        x.setSub(3);
        x.start();
        due.statuses("at the start", x, 1, 1, 0, 0);
        due.ticks(x, 1);
        due.statuses("the sub-make target waits", x, 4, 1, 0, 0);
        due.ticks(x, 0, 1, -1);
        due.statuses("at the end", x, 4, 2, 5, 5);
        due.finishedAt(x, 1, 3, 3, 3);
    }

    private static void stepBSkipsTheRest() {
        due.sentence("then, if no target at all is RUNNING, every WAITING target becomes SKIPPED.");
        JobServer x = new JobServer(5, 1, 0);
        x.setCommand(0, 2, true);
        x.setSubmake(2);
        x.setSub(1);
        x.setTime(4, 3);
        x.addPrereq(4, 3, true);
        x.start();
        due.ticks(x, 0);
        due.statuses("0 runs", x, 1, 0, 0, 0, 0);
        due.ticks(x, 1, -1);
        due.statuses("at the end", x, 4, 5, 5, 5, 5);
        due.finishedAt(x, 2, 2, 2, 2, 2);
        due.startedAt(x, 0, -1, -1, -1, -1);
        JobServer many = new JobServer(32, 1, 0);
        many.setCommand(0, 1, true);
        many.start();
        due.ticks(many, 1, -1);
        for (int t = 1; t < 32; t++) {
            due.is("status(" + t + ")", many.status(t), JobServer.STATUS_SKIPPED);
            due.is("finishedAt(" + t + ")", many.finishedAt(t), 1);
        }
    }

    /** Only the sub-make target runs after the first tick: that still is a running target. */
    private static void stepBWaitsForTheSubmakeTarget() {
        due.sentence("if no target at all is RUNNING");
        JobServer x = new JobServer(4, 1, 0);
        x.setSubmake(0);
        x.setSub(1);
        x.setSub(2);
        x.setCommand(1, 1, true);
        x.start();
        due.ticks(x, 1);
        due.statuses("1 failed", x, 1, 4, 5, 0);
        due.ticks(x, 1, -1);
        due.statuses("at the end", x, 4, 4, 5, 5);
        due.finishedAt(x, 2, 1, 1, 2);
    }

    private static void stepBFollowsTheFailedSubmakeTarget() {
        due.sentence("Targets skipped in steps a and b also get finishedAt = c.");
        JobServer x = new JobServer(4, 1, 0);
        x.setSubmake(1);
        x.setSub(0);
        x.setSub(2);
        x.setCommand(0, 1, true);
        x.start();
        due.statuses("at the start", x, 0, 1, 1, 0);
        due.ticks(x, 1);
        due.statuses("2 is remade", x, 1, 1, 2, 0);
        due.ticks(x, 2, -1);
        due.statuses("at the end", x, 4, 4, 2, 5);
        due.finishedAt(x, 2, 2, 1, 2);
    }

    private static void stepsNeedAFailure() {
        due.sentence("After the passes, and only if keep-going is off and the failure flag is set",
                "no failure");
        JobServer x = new JobServer(4, 1, 0);
        x.setSubmake(0);
        x.setSub(1);
        x.setSub(2);
        x.start();
        due.ticks(x, 1, 2, 1, -1);
        due.statuses("at the end", x, 2, 2, 2, 2);
    }

    private static void stepsNeedKeepGoingOff() {
        due.sentence("After the passes, and only if keep-going is off and the failure flag is set",
                "keep-going on");
        JobServer x = new JobServer(5, 1, 1);
        x.setSubmake(0);
        x.setSub(1);
        x.setSub(2);
        x.setCommand(1, 1, true);
        x.addPrereq(4, 0, true);
        x.start();
        due.ticks(x, 1);
        due.statuses("the sub-build goes on", x, 1, 4, 1, 0, 0);
        due.ticks(x, 2);
        due.statuses("the top goes on", x, 4, 4, 2, 1, 5);
        due.ticks(x, 1, -1);
        due.statuses("at the end", x, 4, 4, 2, 2, 5);
    }

    private static void theSubmakeTargetEndsATickAfterStepA() {
        due.sentence("Steps a and b cause no further passes.");
        JobServer x = new JobServer(4, 1, 0);
        x.setSubmake(0);
        x.setSub(1);
        x.setSub(2);
        x.addPrereq(3, 0, false);
        x.setCommand(1, 2, true);
        x.start();
        due.ticks(x, 0);
        due.changes("tick() no. 2", x, s -> s.tick(), 1, "status(1)=4", "finishedAt(1)=2",
                "status(2)=5", "finishedAt(2)=2");
        due.changes("tick() no. 3", x, s -> s.tick(), 1, "status(0)=4", "finishedAt(0)=3",
                "status(3)=5", "finishedAt(3)=3", "isQuiet()=1");
    }
}
