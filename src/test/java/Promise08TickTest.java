/** Promise 8: one tick of time. The rules of SETTLE have a test of their own. */
public final class Promise08TickTest {
    private static final Due due = new Due();

    public static void main(String[] args) {
        refusedBeforeStartAndWhenQuiet();
        everyDurationEndsInItsTick();
        remadeAndFailed();
        onlyFinishedTargetsAreCounted();
        submakeWithoutSubs();
        submakeWithUpToDateSubs();
        submakeEndsWithItsLastSub();
        submakeFailsWithAFailedSub();
        submakeFailsWithASkippedSub();
        theEndOfTheSubBuildLetsOthersStart();
        theLongestBuild();
        due.end();
    }

    private static void refusedBeforeStartAndWhenQuiet() {
        JobServer x = new JobServer(2, 1, 0);
        due.leaves("tick() before start()", x, s -> s.tick(), -1);
        x.start();
        due.ticks(x, 1, 1);
        due.leaves("tick() when quiet", x, s -> s.tick(), -1);
        due.leaves("tick() when quiet, again", x, s -> s.tick(), -1);
    }

    private static void everyDurationEndsInItsTick() {
        for (int duration = 1; duration <= JobServer.MAX_DURATION; duration++) {
            JobServer x = new JobServer(2, 1, 0);
            x.setCommand(0, duration, false);
            x.setCommand(1, duration, false);
            x.start();
            for (int tick = 1; tick <= 2 * duration; tick++) {
                due.is("duration " + duration, x.tick(), tick % duration == 0 ? 1 : 0);
            }
            due.startedAt(x, 0, duration);
            due.finishedAt(x, duration, 2 * duration);
        }
    }

    private static void remadeAndFailed() {
        JobServer x = new JobServer(4, 4, 1);
        x.setCommand(1, 2, false);
        x.setCommand(2, 2, true);
        x.setCommand(3, 3, true);
        x.addPrereq(1, 0, false);
        x.addPrereq(3, 0, false);
        x.setTime(1, 50);
        x.setTime(3, 60);
        x.start();
        due.ticks(x, 1, 1, 1, 1, -1);
        due.statuses("at the end", x, 2, 2, 4, 4);
        due.is("timeOf(0)", x.timeOf(0), 1000001);
        due.is("timeOf(1)", x.timeOf(1), 1000003);
        due.is("timeOf(2), failed", x.timeOf(2), 0);
        due.is("timeOf(3), failed", x.timeOf(3), 60);
    }

    private static void onlyFinishedTargetsAreCounted() {
        JobServer x = new JobServer(5, 2, 1);
        x.setCommand(0, 1, true);
        x.addPrereq(2, 0, false);
        x.addPrereq(3, 1, true);
        x.setTime(3, 9);
        x.addPrereq(4, 2, true);
        x.start();
        due.statuses("at the start", x, 1, 1, 0, 0, 0);
        due.is("tick()", x.tick(), 2);
        due.statuses("after it", x, 4, 2, 5, 3, 5);
        due.finishedAt(x, 1, 1, 1, 1, 1);
    }

    private static void submakeWithoutSubs() {
        JobServer x = new JobServer(2, 1, 0);
        x.setSubmake(0);
        x.setCommand(0, 15, true);
        x.setTime(0, 70);
        x.setTime(1, 70);
        x.addPrereq(1, 0, false);
        x.start();
        due.statuses("at the start", x, 1, 0);
        due.is("tick()", x.tick(), 1);
        due.statuses("after it", x, 2, 1);
        due.is("timeOf(0)", x.timeOf(0), 1000001);
        due.finishedAt(x, 1, -1);
        due.ticks(x, 1, -1);
    }

    private static void submakeWithUpToDateSubs() {
        JobServer x = new JobServer(3, 1, 0);
        x.setSubmake(1);
        x.setSub(0);
        x.setSub(2);
        x.setTime(0, 5);
        x.setTime(2, 5);
        x.start();
        due.statuses("at the start", x, 3, 1, 3);
        due.ticks(x, 1, -1);
        due.statuses("at the end", x, 3, 2, 3);
        due.finishedAt(x, 0, 1, 0);
    }

    private static void submakeEndsWithItsLastSub() {
        JobServer x = new JobServer(4, 2, 0);
        x.setSubmake(0);
        x.setSub(1);
        x.setSub(3);
        x.setCommand(1, 2, false);
        x.setCommand(3, 4, false);
        x.setTime(2, 1);
        x.start();
        due.ticks(x, 0, 1, 0, 2, -1);
        due.statuses("at the end", x, 2, 2, 3, 2);
        due.finishedAt(x, 4, 2, 0, 4);
        due.is("timeOf(0)", x.timeOf(0), 1000004);
    }

    private static void submakeFailsWithAFailedSub() {
        JobServer x = new JobServer(4, 1, 1);
        x.setSubmake(3);
        x.setSub(0);
        x.setSub(1);
        x.setTime(3, 44);
        x.setCommand(0, 1, true);
        x.addPrereq(2, 3, true);
        x.start();
        due.ticks(x, 1, 2, -1);
        due.statuses("at the end", x, 4, 2, 5, 4);
        due.is("timeOf(3)", x.timeOf(3), 44);
        due.startedAt(x, 0, 1, -1, 0);
        due.finishedAt(x, 1, 2, 2, 2);
    }

    /** The failure is a top target's, so only the skipped sub target speaks against the sub-make. */
    private static void submakeFailsWithASkippedSub() {
        JobServer x = new JobServer(4, 2, 0);
        x.setSubmake(1);
        x.setSub(2);
        x.setSub(3);
        x.setCommand(0, 1, true);
        x.setCommand(2, 3, false);
        x.start();
        due.statuses("at the start", x, 1, 1, 1, 0);
        due.ticks(x, 1, 0, 1);
        due.statuses("when the last sub target ended", x, 4, 1, 2, 5);
        due.ticks(x, 1, -1);
        due.statuses("at the end", x, 4, 4, 2, 5);
        due.finishedAt(x, 1, 4, 3, 3);
    }

    private static void theEndOfTheSubBuildLetsOthersStart() {
        JobServer x = new JobServer(3, 1, 0);
        x.setSubmake(0);
        x.setSub(1);
        x.start();
        due.statuses("at the start", x, 1, 1, 0);
        due.is("tick()", x.tick(), 2);
        due.statuses("after it", x, 2, 2, 1);
        due.startedAt(x, 0, 0, 1);
        due.ticks(x, 1, -1);
    }

    private static void theLongestBuild() {
        JobServer x = new JobServer(32, 1, 0);
        for (int t = 0; t < 32; t++) {
            x.setCommand(t, 15, false);
        }
        x.start();
        int ticks = 0;
        while (ticks < 1000 && x.tick() >= 0) {
            ticks++;
        }
        due.is("ticks of the longest build", ticks, 480);
        due.is("timeOf(31)", x.timeOf(31), 1000480);
    }
}
