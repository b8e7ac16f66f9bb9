/** Terms of the document: targets, done statuses and the failure flag. */
public final class TermsTargetsTest {
    private static final Due due = new Due();

    public static void main(String[] args) {
        oneSubmakeTargetAtMost();
        topLevelIsBothOfThem();
        zeroMeansMissing();
        oneToMaxTimeIsAnInitialTime();
        remadeIsNewerThanAnyInitialTime();
        theShortestAndTheLongestCommand();
        theDefaultCommand();
        theSubmakeCommand();
        bothTopLevelOrBothSub();
        goodDoneStatusesLetOthersOn();
        badDoneStatusesDoNot();
        theFlagIsSetByATopCommand();
        theFlagIsSetByASubCommand();
        theFlagStandsWithAFailedSubmakeTarget();
        nothingClearsTheFlag();
        due.end();
    }

    private static void oneSubmakeTargetAtMost() {
        due.sentence("LEVEL_SUBMAKE (the single top target whose command is the sub-build).");
        JobServer x = new JobServer(32, 1, 0);
        for (int t = 31; t >= 0; t--) {
            due.is("setSubmake(" + t + ")", x.setSubmake(t), t == 31);
        }
        for (int t = 0; t < 32; t++) {
            int want = t == 31 ? JobServer.LEVEL_SUBMAKE : JobServer.LEVEL_TOP;
            due.is("level(" + t + ")", x.level(t), want);
        }
    }

    private static void topLevelIsBothOfThem() {
        due.sentence("LEVEL_TOP and LEVEL_SUBMAKE together are called top-level; LEVEL_SUB targets "
                + "are called sub targets.");
        JobServer x = new JobServer(4, 2, 0);
        x.setSubmake(1);
        x.setSub(2);
        due.is("top over sub-make", x.addPrereq(3, 1, true), true);
        due.is("sub-make over top", x.addPrereq(1, 0, true), true);
        due.is("top over sub", x.addPrereq(3, 2, true), false);
        x.start();
        due.statuses("0 runs", x, 1, 0, 0, 0);
        due.ticks(x, 1);
        due.statuses("the sub-make target runs, and its sub target", x, 2, 1, 1, 0);
        due.is("tokensFree(), each being the first of its level", x.tokensFree(), 1);
    }

    private static void zeroMeansMissing() {
        due.sentence("a timestamp: 0 means missing");
        JobServer x = new JobServer(3, 3, 0);
        x.setTime(0, 0);
        x.setTime(1, 1);
        x.setTime(2, 1);
        x.setTime(2, 0);
        x.start();
        due.statuses("at the start", x, 1, 3, 1);
    }

    private static void oneToMaxTimeIsAnInitialTime() {
        due.sentence("1..MAX_TIME is an initial time");
        int[] times = {1, 2, JobServer.MAX_TIME - 1, JobServer.MAX_TIME};
        for (int time : times) {
            JobServer x = new JobServer(1, 1, 0);
            due.is("setTime(0, " + time + ")", x.setTime(0, time), true);
            x.start();
            due.statuses("there, so not stale", x, JobServer.STATUS_UPTODATE);
            due.is("timeOf(0)", x.timeOf(0), time);
        }
    }

    private static void remadeIsNewerThanAnyInitialTime() {
        due.sentence("a target that is remade gets STAMP_BASE + the clock value of the tick that "
                + "remade it.");
        JobServer x = new JobServer(2, 1, 0);
        x.setTime(0, JobServer.MAX_TIME);
        x.addPrereq(0, 1, false);
        x.start();
        due.ticks(x, 1);
        due.is("timeOf(1)", x.timeOf(1), JobServer.MAX_TIME + 1);
        due.statuses("0 is older than what was remade in the first tick", x, 1, 2);
        due.ticks(x, 1, -1);
        due.is("timeOf(0)", x.timeOf(0), JobServer.MAX_TIME + 2);
    }

    private static void theShortestAndTheLongestCommand() {
        due.sentence("a duration of 1..MAX_DURATION ticks and a flag telling whether it fails.");
        JobServer x = new JobServer(4, 4, 1);
        due.is("setCommand(0)", x.setCommand(0, 1, false), true);
        due.is("setCommand(1)", x.setCommand(1, 1, true), true);
        due.is("setCommand(2)", x.setCommand(2, JobServer.MAX_DURATION, false), true);
        due.is("setCommand(3)", x.setCommand(3, JobServer.MAX_DURATION, true), true);
        x.start();
        due.ticks(x, 2, 0, 0, 0, 0, 0, 0, 0, 0, 0, 0, 0, 0, 0, 2, -1);
        due.statuses("at the end", x, 2, 4, 2, 4);
        due.finishedAt(x, 1, 1, 15, 15);
    }

    private static void theDefaultCommand() {
        due.sentence("The default is duration 1, succeeds.");
        JobServer x = new JobServer(3, 1, 0);
        x.setSubmake(1);
        x.setSub(2);
        for (int t = 0; t < 3; t++) {
            due.is("commandOf(" + t + ")", x.commandOf(t), 1);
        }
        x.start();
        due.ticks(x, 1, 2, -1);
        due.statuses("at the end", x, 2, 2, 2);
    }

    private static void theSubmakeCommand() {
        due.sentence("The sub-make target's command is stored but never used.");
        JobServer x = new JobServer(2, 1, 0);
        x.setCommand(0, 15, true);
        x.setSubmake(0);
        x.setSub(1);
        x.setCommand(1, 3, false);
        due.is("commandOf(0)", x.commandOf(0), 31);
        x.start();
        due.ticks(x, 0, 0, 2, -1);
        due.statuses("at the end", x, 2, 2);
        due.is("commandOf(0)", x.commandOf(0), 31);
    }

    private static void bothTopLevelOrBothSub() {
        due.sentence("A target and its prerequisite are both top-level or both sub.");
        JobServer x = new JobServer(8, 1, 0);
        x.addPrereq(1, 0, false);
        x.setSubmake(3);
        for (int t = 0; t < 6; t++) {
            due.is("setSub(" + t + ")", x.setSub(t), t == 2 || t == 4 || t == 5);
        }
        for (int t = 0; t < 8; t++) {
            for (int p = 0; p < 8; p++) {
                x.addPrereq(t, p, p % 2 == 0);
                boolean mixed = isSub(x, t) != isSub(x, p);
                boolean edge = x.prereqKind(t, p) != JobServer.KIND_NONE;
                due.is("a mixed edge from " + t + " to " + p, mixed && edge, false);
            }
        }
        due.is("an edge of the top", x.prereqKind(3, 6), JobServer.KIND_ORDER_ONLY);
        due.is("an edge of the sub-build", x.prereqKind(2, 4), JobServer.KIND_ORDER_ONLY);
        for (int t = 0; t < 8; t++) {
            due.is("setSub(" + t + ") with edges", x.setSub(t), false);
        }
    }

    private static boolean isSub(JobServer x, int t) {
        return x.level(t) == JobServer.LEVEL_SUB;
    }

    private static void goodDoneStatusesLetOthersOn() {
        due.sentence("REMADE and UPTODATE are the good done statuses;");
        for (int kind = 0; kind <= 1; kind++) {
            JobServer x = new JobServer(4, 4, 0);
            x.setTime(0, 1);
            x.addPrereq(2, 0, kind == 1);
            x.addPrereq(3, 1, kind == 1);
            x.start();
            due.statuses("2 needs what is UPTODATE", x, 3, 1, 1, 0);
            due.ticks(x, 2);
            due.statuses("3 needs what is REMADE", x, 3, 2, 2, 1);
        }
    }

    private static void badDoneStatusesDoNot() {
        due.sentence("FAILED and SKIPPED are the bad done statuses.");
        for (int kind = 0; kind <= 1; kind++) {
            JobServer x = new JobServer(3, 4, 1);
            x.setCommand(0, 1, true);
            x.addPrereq(1, 0, kind == 1);
            x.addPrereq(2, 1, kind == 1);
            x.start();
            due.ticks(x, 1, -1);
            due.statuses("1 needs what FAILED, 2 what was SKIPPED", x, 4, 5, 5);
        }
    }

    private static void theFlagIsSetByATopCommand() {
        due.sentence("Clear at the start; set when a command fails", "a top one");
        for (int failing = 0; failing < 2; failing++) {
            JobServer x = new JobServer(3, 2, 0);
            x.setCommand(failing, 1, true);
            x.setCommand(1 - failing, 3, false);
            x.start();
            due.statuses("no failure yet", x, 1, 1, 0);
            due.ticks(x, 1);
            due.is("2 does not start", x.status(2), JobServer.STATUS_WAITING);
        }
    }

    /** The sub-make target still runs, so it is the sub target alone that set the flag. */
    private static void theFlagIsSetByASubCommand() {
        due.sentence("set when a command fails", "a sub one");
        JobServer x = new JobServer(6, 3, 0);
        x.setSubmake(0);
        x.setCommand(1, 4, false);
        x.setSub(2);
        x.setCommand(2, 1, true);
        x.setSub(3);
        x.setCommand(3, 3, false);
        x.setSub(5);
        x.start();
        due.statuses("at the start", x, 1, 1, 1, 1, 0, 0);
        due.ticks(x, 1, 0);
        due.statuses("neither 4 nor 5 starts", x, 1, 1, 4, 1, 0, 0);
        due.is("tokensFree()", x.tokensFree(), 1);
        due.ticks(x, 1, 2, -1);
        due.statuses("at the end", x, 4, 2, 4, 2, 5, 5);
        due.finishedAt(x, 4, 4, 1, 3, 4, 3);
    }

    private static void theFlagStandsWithAFailedSubmakeTarget() {
        due.sentence("or when the sub-make target becomes FAILED during tick().");
        JobServer x = new JobServer(4, 2, 0);
        x.setSubmake(0);
        x.setSub(1);
        x.setCommand(1, 2, true);
        x.setCommand(2, 5, false);
        x.start();
        due.statuses("at the start", x, 1, 1, 1, 0);
        due.ticks(x, 0, 2);
        due.statuses("3 needs nothing, yet does not start", x, 4, 4, 1, 0);
        due.ticks(x, 0, 0, 1, -1);
        due.statuses("at the end", x, 4, 4, 2, 5);
    }

    /** Neither time nor a later success: others are remade at 2, 3, 8 and 15. */
    private static void nothingClearsTheFlag() {
        due.sentence("Nothing clears it.");
        JobServer x = new JobServer(8, 5, 0);
        x.setCommand(0, 1, true);
        x.setCommand(1, 2, false);
        x.setCommand(2, 3, false);
        x.setCommand(3, 8, false);
        x.setCommand(4, 15, false);
        x.setTime(6, 1);
        x.addPrereq(6, 1, true);
        x.addPrereq(7, 3, true);
        x.start();
        x.tick();
        for (int clock = 1; clock < 15; clock++) {
            due.is("status(5) at " + clock, x.status(5), JobServer.STATUS_WAITING);
            due.is("status(6) at " + clock, x.status(6), JobServer.STATUS_WAITING);
            due.is("status(7) at " + clock, x.status(7), JobServer.STATUS_WAITING);
            due.refuses("start() at " + clock, x, s -> s.start());
            x.tick();
        }
        due.statuses("at the end", x, 4, 2, 2, 2, 2, 5, 5, 5);
        due.finishedAt(x, 1, 2, 3, 8, 15, 15, 15, 15);
    }
}
