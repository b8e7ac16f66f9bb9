/** Promise 10: timestamp. */
public final class Promise10TimeOfTest {
    private static final Due due = new Due();

    public static void main(String[] args) {
        theTimeSetIsKeptUntilRemade();
        otherStatusesKeepTheTime();
        wrongTargets();
        due.end();
    }

    private static void theTimeSetIsKeptUntilRemade() {
        JobServer x = new JobServer(3, 1, 0);
        x.setTime(0, 20);
        x.setTime(1, 10);
        x.addPrereq(1, 0, false);
        x.setCommand(1, 2, false);
        due.leaves("timeOf(2), never set", x, s -> s.timeOf(2), 0);
        x.start();
        due.leaves("timeOf(1) at the start", x, s -> s.timeOf(1), 10);
        due.ticks(x, 0);
        due.leaves("timeOf(1), running", x, s -> s.timeOf(1), 10);
        due.ticks(x, 1);
        due.leaves("timeOf(1), remade", x, s -> s.timeOf(1), JobServer.STAMP_BASE + 2);
        due.ticks(x, 1, -1);
        due.leaves("timeOf(1) at the end", x, s -> s.timeOf(1), JobServer.STAMP_BASE + 2);
        due.leaves("timeOf(2), remade", x, s -> s.timeOf(2), JobServer.STAMP_BASE + 3);
        due.leaves("timeOf(0), up to date", x, s -> s.timeOf(0), 20);
    }

    private static void otherStatusesKeepTheTime() {
        JobServer x = new JobServer(4, 1, 0);
        x.setTime(0, 5);
        x.setTime(1, 4);
        x.setTime(2, 3);
        x.setTime(3, 2);
        x.addPrereq(1, 0, false);
        x.setCommand(1, 1, true);
        x.addPrereq(2, 1, false);
        x.addPrereq(3, 2, true);
        x.start();
        due.ticks(x, 1, -1);
        due.statuses("at the end", x, 3, 4, 5, 5);
        for (int t = 0; t < 4; t++) {
            due.is("timeOf(" + t + ")", x.timeOf(t), 5 - t);
        }
    }

    private static void wrongTargets() {
        JobServer x = new JobServer(6, 3, 1);
        int[] wrong = {Integer.MIN_VALUE, -33, -1, 6, 7, 31, 32, Integer.MAX_VALUE};
        for (int w : wrong) {
            due.leaves("timeOf(" + w + ")", x, s -> s.timeOf(w), -1);
        }
    }
}
