/** Promise 1: construction and starting state. */
public final class Promise01ConstructionTest {
    private static final Due due = new Due();
    private static final int[] COUNTS = {1, 2, 17, 31, 32};

    public static void main(String[] args) {
        tooFewTargetsBecomeOne();
        tooManyTargetsBecome32();
        otherCountsOfTargetsAreTaken();
        tooFewTokensBecomeOne();
        tooManyTokensBecome8();
        otherLimitsOfTokensAreTaken();
        keepGoingHasTwoModes();
        positiveKeepGoingIsOn();
        otherKeepGoingIsOff();
        targetsAtFirst();
        statusesAtFirst();
        startAndFinishAtFirst();
        noPrerequisitesAtFirst();
        noSubmakeTargetAtFirst();
        theClockIsZeroAtFirst();
        notStartedAtFirst();
        noFailureAtFirst();
        theArgumentsStandForGood();
        due.end();
    }

    private static void tooFewTargetsBecomeOne() {
        due.sentence("any value below 1 becomes 1");
        int[] tooFew = {Integer.MIN_VALUE, Integer.MIN_VALUE + 1, -32, -31, -2, -1, 0};
        for (int asked : tooFew) {
            countOfTargets(asked, 1);
        }
    }

    private static void tooManyTargetsBecome32() {
        due.sentence("any value above 32 becomes 32");
        int[] tooMany = {33, 34, 63, 64, 65, 1 << 16, Integer.MAX_VALUE - 1, Integer.MAX_VALUE};
        for (int asked : tooMany) {
            countOfTargets(asked, 32);
        }
    }

    private static void otherCountsOfTargetsAreTaken() {
        due.sentence("targets gives the number n of targets, clamped into 1..32");
        for (int asked = 1; asked <= 32; asked++) {
            countOfTargets(asked, asked);
        }
    }

    private static void countOfTargets(int asked, int want) {
        JobServer x = new JobServer(asked, 2, 0);
        int seen = 0;
        for (int t = -70; t <= 70; t++) {
            seen += x.status(t) == JobServer.STATUS_WAITING ? 1 : 0;
        }
        due.is("targets " + asked + ": how many there are", seen, want);
        due.is("targets " + asked + ": status of the first", x.status(0), 0);
        due.is("targets " + asked + ": status of the last", x.status(want - 1), 0);
        due.is("targets " + asked + ": status behind the last", x.status(want), -1);
        due.is("targets " + asked + ": setTime on the last", x.setTime(want - 1, 5), true);
        due.is("targets " + asked + ": setTime behind the last", x.setTime(want, 5), false);
    }

    private static void tooFewTokensBecomeOne() {
        due.sentence("tokens gives the token limit L, clamped into 1..8 the same way.", "too few");
        int[] tooFew = {Integer.MIN_VALUE, Integer.MIN_VALUE + 1, -8, -2, -1, 0};
        for (int asked : tooFew) {
            limitOfTokens(asked, 1);
        }
    }

    private static void tooManyTokensBecome8() {
        due.sentence("tokens gives the token limit L, clamped into 1..8 the same way.", "too many");
        int[] tooMany = {9, 10, 16, 17, 32, 33, Integer.MAX_VALUE - 1, Integer.MAX_VALUE};
        for (int asked : tooMany) {
            limitOfTokens(asked, 8);
        }
    }

    private static void otherLimitsOfTokensAreTaken() {
        due.sentence("tokens gives the token limit L, clamped into 1..8 the same way.");
        for (int asked = 1; asked <= 8; asked++) {
            limitOfTokens(asked, asked);
        }
    }

    private static void limitOfTokens(int asked, int want) {
        JobServer x = new JobServer(12, asked, 0);
        due.is("tokens " + asked + ": tokensFree()", x.tokensFree(), want - 1);
        x.start();
        int running = 0;
        for (int t = 0; t < 12; t++) {
            running += x.status(t) == JobServer.STATUS_RUNNING ? 1 : 0;
        }
        due.is("tokens " + asked + ": running at the start", running, want);
    }

    private static void positiveKeepGoingIsOn() {
        due.sentence("any positive value turns it on");
        int[] positive = {1, 2, 3, 4, 256, 1 << 16, 1 << 30, Integer.MAX_VALUE};
        for (int asked : positive) {
            keepGoing(asked, JobServer.STATUS_RUNNING);
        }
    }

    private static void otherKeepGoingIsOff() {
        due.sentence("any value of 0 or below leaves it off");
        int[] others = {0, -1, -2, -3, -255, Integer.MIN_VALUE + 1, Integer.MIN_VALUE};
        for (int asked : others) {
            keepGoing(asked, JobServer.STATUS_SKIPPED);
        }
    }

    private static void keepGoingHasTwoModes() {
        due.sentence("keepGoing is clamped into 0..1; a result of 1 turns keep-going mode on, 0 "
                + "leaves it off.");
        keepGoing(0, JobServer.STATUS_SKIPPED);
        keepGoing(1, JobServer.STATUS_RUNNING);
    }

    private static void keepGoing(int asked, int other) {
        JobServer x = new JobServer(2, 1, asked);
        x.setCommand(0, 1, true);
        x.start();
        x.tick();
        due.statuses("keepGoing " + asked, x, JobServer.STATUS_FAILED, other);
    }

    private static void targetsAtFirst() {
        due.sentence("all n targets are LEVEL_TOP with timestamp 0 and the default command "
                + "(duration 1, succeeds)");
        for (int n : COUNTS) {
            JobServer x = new JobServer(n, 1, 0);
            for (int t = 0; t < n; t++) {
                due.is("level(" + t + ") of " + n, x.level(t), JobServer.LEVEL_TOP);
                due.is("timeOf(" + t + ") of " + n, x.timeOf(t), 0);
                due.is("commandOf(" + t + ") of " + n, x.commandOf(t), 1);
            }
        }
        JobServer used = new JobServer(1, 1, 0);
        used.start();
        due.ticks(used, 1, -1);
        due.statuses("the default command, used", used, JobServer.STATUS_REMADE);
    }

    private static void statusesAtFirst() {
        due.sentence("every status is WAITING");
        for (int n : COUNTS) {
            JobServer x = new JobServer(n, 8, 1);
            for (int t = 0; t < n; t++) {
                due.is("status(" + t + ") of " + n, x.status(t), JobServer.STATUS_WAITING);
            }
        }
    }

    private static void startAndFinishAtFirst() {
        due.sentence("startedAt and finishedAt of every target are unset (their getters answer "
                + "-1)");
        for (int n : COUNTS) {
            JobServer x = new JobServer(n, 8, 1);
            for (int t = 0; t < n; t++) {
                due.is("startedAt(" + t + ") of " + n, x.startedAt(t), -1);
                due.is("finishedAt(" + t + ") of " + n, x.finishedAt(t), -1);
            }
        }
    }

    private static void noPrerequisitesAtFirst() {
        due.sentence("there are no prerequisites");
        for (int n : COUNTS) {
            JobServer x = new JobServer(n, 8, 1);
            for (int t = 0; t < n; t++) {
                for (int p = 0; p < n; p++) {
                    due.is("prereqKind(" + t + ", " + p + ")", x.prereqKind(t, p), 0);
                }
            }
        }
    }

    private static void noSubmakeTargetAtFirst() {
        due.sentence("no sub-make target");
        for (int n : COUNTS) {
            JobServer x = new JobServer(n, 1, 0);
            for (int t = 0; t < n; t++) {
                due.is("setSub(" + t + ") of " + n, x.setSub(t), false);
            }
            due.is("setSubmake of the last of " + n, x.setSubmake(n - 1), true);
        }
        JobServer without = new JobServer(1, 1, 0);
        without.setTime(0, 1);
        without.start();
        due.statuses("no target is stale as the sub-make target", without, 3);
    }

    private static void theClockIsZeroAtFirst() {
        due.sentence("the clock is 0");
        JobServer x = new JobServer(2, 1, 0);
        x.setTime(1, 1);
        x.start();
        due.startedAt(x, 0, -1);
        due.finishedAt(x, -1, 0);
        x.tick();
        due.finishedAt(x, 1, 0);
    }

    private static void notStartedAtFirst() {
        due.sentence("the build is not started");
        for (int n : COUNTS) {
            JobServer x = new JobServer(n, 1, 0);
            due.is("isQuiet()", x.isQuiet(), false);
            due.is("tick()", x.tick(), -1);
            due.is("setTime(0, 1)", x.setTime(0, 1), true);
            due.is("setCommand(0, 2, true)", x.setCommand(0, 2, true), true);
            due.is("start()", x.start(), true);
        }
    }

    /** Another object's failure must not be seen either. */
    private static void noFailureAtFirst() {
        due.sentence("the failure flag is clear");
        JobServer failing = new JobServer(2, 1, 0);
        JobServer before = new JobServer(2, 1, 0);
        failing.setCommand(0, 1, true);
        failing.start();
        due.ticks(failing, 1, -1);
        JobServer after = new JobServer(2, 1, 0);
        for (JobServer x : new JobServer[] {before, after}) {
            x.start();
            due.statuses("at the start", x, JobServer.STATUS_RUNNING, JobServer.STATUS_WAITING);
            due.ticks(x, 1, 1, -1);
            due.statuses("at the end", x, JobServer.STATUS_REMADE, JobServer.STATUS_REMADE);
        }
    }

    private static void theArgumentsStandForGood() {
        due.sentence("n, L and the keep-going mode never change afterwards.");
        for (int keepGoing = 0; keepGoing <= 1; keepGoing++) {
            JobServer x = new JobServer(7, 3, keepGoing);
            x.setSubmake(5);
            x.setSub(6);
            x.setCommand(0, 2, true);
            x.setCommand(1, 5, false);
            x.setCommand(2, 5, true);
            x.addPrereq(4, 3, false);
            due.is("tokensFree() before start()", x.tokensFree(), 2);
            x.start();
            due.ticks(x, 0, 1);
            int[] on = {4, 1, 1, 1, 0, 0, 0};
            int[] off = {4, 1, 1, 0, 0, 0, 0};
            due.statuses("after one failure", x, keepGoing == 1 ? on : off);
            Due.toTheEnd(x);
            int[] onAtTheEnd = {4, 2, 4, 2, 2, 2, 2};
            int[] offAtTheEnd = {4, 2, 4, 5, 5, 5, 5};
            due.statuses("at the end", x, keepGoing == 1 ? onAtTheEnd : offAtTheEnd);
            due.is("tokensFree() at the end", x.tokensFree(), 2);
        }
    }
}
