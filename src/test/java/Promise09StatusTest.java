/** Promise 9: status. */
public final class Promise09StatusTest {
    private static final Due due = new Due();

    public static void main(String[] args) {
        waitingBeforeStart();
        allStatuses();
        wrongTargets();
        due.end();
    }

    private static void waitingBeforeStart() {
        JobServer x = new JobServer(4, 8, 1);
        x.setSubmake(0);
        x.setSub(1);
        x.setTime(2, 7);
        x.addPrereq(3, 2, false);
        due.statuses("before start()", x, 0, 0, 0, 0);
    }

    private static void allStatuses() {
        JobServer x = new JobServer(6, 3, 1);
        x.setCommand(0, 9, false);
        x.setCommand(2, 1, true);
        x.setTime(3, 1);
        x.addPrereq(4, 2, false);
        x.addPrereq(5, 0, false);
        x.start();
        due.is("tick()", x.tick(), 2);
        due.statuses("after it", x, JobServer.STATUS_RUNNING, JobServer.STATUS_REMADE,
                JobServer.STATUS_FAILED, JobServer.STATUS_UPTODATE, JobServer.STATUS_SKIPPED,
                JobServer.STATUS_WAITING);
        for (int t = -1; t <= 6; t++) {
            int target = t;
            due.leaves("status(" + t + ")", x, s -> s.status(target), x.status(t));
        }
    }

    private static void wrongTargets() {
        JobServer x = new JobServer(6, 3, 1);
        int[] wrong = {Integer.MIN_VALUE, -33, -1, 6, 7, 31, 32, Integer.MAX_VALUE};
        for (int w : wrong) {
            due.leaves("status(" + w + ")", x, s -> s.status(w), -1);
        }
        x.start();
        for (int w : wrong) {
            due.leaves("status(" + w + ") when started", x, s -> s.status(w), -1);
        }
    }
}
