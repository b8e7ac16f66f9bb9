/** Promise 12: start and finish times. */
public final class Promise12StartFinishTest {
    private static final Due due = new Due();

    public static void main(String[] args) {
        unsetBeforeStart();
        everyWayToEnd();
        theSubmakeTargetHasBoth();
        wrongTargets();
        due.end();
    }

    private static void unsetBeforeStart() {
        JobServer x = new JobServer(3, 1, 0);
        x.setTime(1, 9);
        due.startedAt(x, -1, -1, -1);
        due.finishedAt(x, -1, -1, -1);
    }

    private static void everyWayToEnd() {
        JobServer x = new JobServer(5, 1, 1);
        x.setTime(0, 4);
        x.setCommand(1, 2, false);
        x.setCommand(2, 3, true);
        x.addPrereq(3, 2, false);
        x.setTime(4, 4);
        x.addPrereq(4, 1, true);
        x.start();
        due.startedAt(x, -1, 0, -1, -1, -1);
        due.finishedAt(x, 0, -1, -1, -1, -1);
        due.ticks(x, 0, 1);
        due.startedAt(x, -1, 0, 2, -1, -1);
        due.finishedAt(x, 0, 2, -1, -1, 2);
        due.ticks(x, 0, 0, 1, -1);
        due.statuses("at the end", x, 3, 2, 4, 5, 3);
        due.startedAt(x, -1, 0, 2, -1, -1);
        due.finishedAt(x, 0, 2, 5, 5, 2);
        for (int t = 0; t < 5; t++) {
            int target = t;
            due.leaves("startedAt", x, s -> s.startedAt(target), x.startedAt(t));
            due.leaves("finishedAt", x, s -> s.finishedAt(target), x.finishedAt(t));
        }
    }

    private static void theSubmakeTargetHasBoth() {
        JobServer x = new JobServer(3, 1, 0);
        x.setSubmake(1);
        x.setSub(2);
        x.addPrereq(1, 0, true);
        x.setCommand(0, 4, false);
        x.setCommand(2, 3, false);
        x.start();
        due.ticks(x, 0, 0, 0, 1, 0, 0, 2, -1);
        due.startedAt(x, 0, 4, 4);
        due.finishedAt(x, 4, 7, 7);
    }

    private static void wrongTargets() {
        JobServer x = new JobServer(6, 8, 1);
        x.start();
        x.tick();
        int[] wrong = {Integer.MIN_VALUE, -33, -1, 6, 7, 31, 32, Integer.MAX_VALUE};
        for (int w : wrong) {
            due.leaves("startedAt(" + w + ")", x, s -> s.startedAt(w), -1);
            due.leaves("finishedAt(" + w + ")", x, s -> s.finishedAt(w), -1);
        }
    }
}
