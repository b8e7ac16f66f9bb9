/** Promise 11: command. */
public final class Promise11CommandOfTest {
    private static final Due due = new Due();

    public static void main(String[] args) {
        everyCommand();
        theCommandOutlivesTheRun();
        wrongTargets();
        due.end();
    }

    private static void everyCommand() {
        JobServer x = new JobServer(32, 1, 0);
        due.leaves("commandOf(31), the default", x, s -> s.commandOf(31), 1);
        for (int t = 0; t < 30; t++) {
            x.setCommand(t, t / 2 + 1, t % 2 == 1);
        }
        for (int t = 0; t < 30; t++) {
            int want = t / 2 + 1 + (t % 2 == 1 ? 16 : 0);
            due.is("commandOf(" + t + ")", x.commandOf(t), want);
        }
        due.is("commandOf(30)", x.commandOf(30), 1);
        x.setCommand(30, 1, true);
        due.is("commandOf(30), shortest that fails", x.commandOf(30), 17);
        x.setCommand(30, 15, true);
        due.is("commandOf(30), longest that fails", x.commandOf(30), 31);
    }

    private static void theCommandOutlivesTheRun() {
        JobServer x = new JobServer(3, 2, 1);
        x.setCommand(0, 3, false);
        x.setCommand(1, 2, true);
        x.setSubmake(2);
        x.setCommand(2, 7, true);
        x.start();
        for (int tick = 0; tick < 6; tick++) {
            due.leaves("commandOf(0)", x, s -> s.commandOf(0), 3);
            due.leaves("commandOf(1)", x, s -> s.commandOf(1), 18);
            due.leaves("commandOf(2)", x, s -> s.commandOf(2), 23);
            x.tick();
        }
        due.statuses("at the end", x, 2, 4, 2);
    }

    private static void wrongTargets() {
        JobServer x = new JobServer(6, 3, 1);
        int[] wrong = {Integer.MIN_VALUE, -33, -1, 6, 7, 31, 32, Integer.MAX_VALUE};
        for (int w : wrong) {
            due.leaves("commandOf(" + w + ")", x, s -> s.commandOf(w), -1);
        }
    }
}
