/** Promise 1: clamping of the constructor's arguments and the starting state. */
public final class Promise01ConstructionTest {
    private static final Due due = new Due();

    public static void main(String[] args) {
        targetsAreClamped();
        tokensAreClamped();
        keepGoingIsClamped();
        startingState();
        due.end();
    }

    private static void targetsAreClamped() {
        countOfTargets(Integer.MIN_VALUE, 1);
        countOfTargets(-1, 1);
        countOfTargets(0, 1);
        countOfTargets(1, 1);
        countOfTargets(2, 2);
        countOfTargets(31, 31);
        countOfTargets(32, 32);
        countOfTargets(33, 32);
        countOfTargets(Integer.MAX_VALUE, 32);
    }

    private static void countOfTargets(int asked, int want) {
        JobServer x = new JobServer(asked, 2, 0);
        due.is("targets " + asked + ": status(" + (want - 1) + ")", x.status(want - 1), 0);
        due.is("targets " + asked + ": status(" + want + ")", x.status(want), -1);
        due.is("targets " + asked + ": setTime on the last", x.setTime(want - 1, 5), true);
        due.is("targets " + asked + ": setTime behind the last", x.setTime(want, 5), false);
    }

    private static void tokensAreClamped() {
        limitOfTokens(Integer.MIN_VALUE, 1);
        limitOfTokens(-1, 1);
        limitOfTokens(0, 1);
        limitOfTokens(1, 1);
        limitOfTokens(2, 2);
        limitOfTokens(7, 7);
        limitOfTokens(8, 8);
        limitOfTokens(9, 8);
        limitOfTokens(Integer.MAX_VALUE, 8);
    }

    private static void limitOfTokens(int asked, int want) {
        JobServer x = new JobServer(12, asked, 0);
        due.is("tokens " + asked + ": tokensFree()", x.tokensFree(), want - 1);
        x.start();
        int running = 0;
        for (int t = 0; t < 12; t++) {
            running += x.status(t) == JobServer.STATUS_RUNNING ? 1 : 0;
        }
        due.is("tokens " + asked + ": running at the start", running, want);
    }

    private static void keepGoingIsClamped() {
        keepGoing(Integer.MIN_VALUE, false);
        keepGoing(-1, false);
        keepGoing(0, false);
        keepGoing(1, true);
        keepGoing(2, true);
        keepGoing(Integer.MAX_VALUE, true);
    }

    private static void keepGoing(int asked, boolean want) {
        JobServer x = new JobServer(2, 1, asked);
        x.setCommand(0, 1, true);
        x.start();
        x.tick();
        int other = want ? JobServer.STATUS_RUNNING : JobServer.STATUS_SKIPPED;
        due.statuses("keepGoing " + asked, x, JobServer.STATUS_FAILED, other);
    }

    private static void startingState() {
        JobServer x = new JobServer(32, 8, 1);
        for (int t = 0; t < 32; t++) {
            due.is("level(" + t + ")", x.level(t), JobServer.LEVEL_TOP);
            due.is("timeOf(" + t + ")", x.timeOf(t), 0);
            due.is("commandOf(" + t + ")", x.commandOf(t), 1);
            due.is("status(" + t + ")", x.status(t), JobServer.STATUS_WAITING);
            due.is("startedAt(" + t + ")", x.startedAt(t), -1);
            due.is("finishedAt(" + t + ")", x.finishedAt(t), -1);
            for (int p = 0; p < 32; p++) {
                due.is("prereqKind(" + t + ", " + p + ")", x.prereqKind(t, p), 0);
            }
        }
        due.is("isQuiet()", x.isQuiet(), false);
        due.is("setSub(0) without a sub-make target", x.setSub(0), false);
        due.is("tick() before start()", x.tick(), -1);
        due.is("start()", x.start(), true);
        due.is("startedAt(0), the clock being 0", x.startedAt(0), 0);
    }
}
