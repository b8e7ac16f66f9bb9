/** Promise 11: command. */
public final class Promise11CommandOfTest {
    private static final Due due = new Due();

    public static void main(String[] args) {
        commandsThatSucceed();
        commandsThatFail();
        theDefaultCommand();
        wrongTargets();
        theCommandOutlivesTheRun();
        theCallChangesNothing();
        due.end();
    }

    private static void commandsThatSucceed() {
        due.sentence("so a command that succeeds answers 1..15");
        JobServer x = new JobServer(32, 1, 0);
        for (int t = 0; t < 32; t++) {
            x.setCommand(t, t % 15 + 1, false);
        }
        for (int t = 0; t < 32; t++) {
            due.is("commandOf(" + t + ")", x.commandOf(t), t % 15 + 1);
        }
    }

    private static void commandsThatFail() {
        due.sentence("and one that fails answers 17..31.");
        JobServer x = new JobServer(32, 1, 0);
        for (int t = 0; t < 32; t++) {
            x.setCommand(t, t % 15 + 1, true);
        }
        for (int t = 0; t < 32; t++) {
            due.is("commandOf(" + t + ")", x.commandOf(t), t % 15 + 17);
        }
    }

    private static void theDefaultCommand() {
        due.sentence("The default command answers 1.");
        JobServer x = new JobServer(32, 1, 0);
        x.setCommand(7, 2, true);
        for (int t = 0; t < 32; t++) {
            due.is("commandOf(" + t + ")", x.commandOf(t), t == 7 ? 18 : 1);
        }
    }

    private static void wrongTargets() {
        due.sentence("Answers -1 if t is not in 0..n-1.");
        for (int n : new int[] {1, 6, 31, 32}) {
            JobServer x = new JobServer(n, 3, 1);
            for (int w : Due.outside(n)) {
                due.leaves("commandOf(" + w + ")", x, s -> s.commandOf(w), -1);
            }
            x.start();
            for (int w : Due.outside(n)) {
                due.leaves("commandOf(" + w + "), started", x, s -> s.commandOf(w), -1);
            }
        }
    }

    private static void theCommandOutlivesTheRun() {
        due.sentence("answers the duration of t's command, plus 16 if that command fails;");
        JobServer x = new JobServer(4, 2, 1);
        x.setCommand(0, 3, false);
        x.setCommand(1, 2, true);
        x.setSubmake(2);
        x.setCommand(2, 7, true);
        x.setSub(3);
        x.setCommand(3, 15, true);
        x.start();
        for (int tick = 0; tick < 20; tick++) {
            due.is("commandOf(0)", x.commandOf(0), 3);
            due.is("commandOf(1)", x.commandOf(1), 18);
            due.is("commandOf(2)", x.commandOf(2), 23);
            due.is("commandOf(3)", x.commandOf(3), 31);
            x.tick();
        }
        due.statuses("at the end", x, 2, 4, 4, 4);
    }

    private static void theCallChangesNothing() {
        due.sentence("Changes nothing.");
        JobServer x = new JobServer(3, 1, 0);
        x.setCommand(1, 4, false);
        for (int call = -40; call < 80; call++) {
            x.commandOf(call % 4);
        }
        JobServer twin = new JobServer(3, 1, 0);
        twin.setCommand(1, 4, false);
        due.sameCourse("looked at and not", x, twin);
        due.leavesCourse("commandOf", s -> s.commandOf(8));
        due.leavesCourse("commandOf of no target", s -> s.commandOf(12));
    }
}
