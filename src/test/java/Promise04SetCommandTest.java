/** Promise 4: setting a command. */
public final class Promise04SetCommandTest {
    private static final Due due = new Due();

    public static void main(String[] args) {
        edgesAreAccepted();
        wrongInputsAreRefused();
        everyLevelTakesACommand();
        onlyTheCommandChanges();
        theCommandIsUsed();
        theSubmakeCommandIsNotUsed();
        refusedOnceStarted();
        due.end();
    }

    private static void edgesAreAccepted() {
        JobServer x = new JobServer(2, 1, 0);
        for (int duration = 1; duration <= JobServer.MAX_DURATION; duration++) {
            due.is("setCommand fails", x.setCommand(0, duration, true), true);
            due.is("commandOf(0)", x.commandOf(0), duration + 16);
            due.is("setCommand succeeds", x.setCommand(0, duration, false), true);
            due.is("commandOf(0)", x.commandOf(0), duration);
        }
        due.is("commandOf(1)", x.commandOf(1), 1);
    }

    private static void wrongInputsAreRefused() {
        JobServer x = new JobServer(3, 1, 0);
        x.setCommand(1, 7, true);
        int[] wrongDurations = {Integer.MIN_VALUE, -1, 0, 16, 17, Integer.MAX_VALUE};
        for (int w : wrongDurations) {
            due.refuses("setCommand(1, " + w + ")", x, s -> s.setCommand(1, w, false));
        }
        int[] wrongTargets = {Integer.MIN_VALUE, -1, 3, 31, 32, Integer.MAX_VALUE};
        for (int w : wrongTargets) {
            due.refuses("setCommand(" + w + ", 2)", x, s -> s.setCommand(w, 2, false));
        }
    }

    private static void everyLevelTakesACommand() {
        JobServer x = new JobServer(3, 1, 0);
        x.setSubmake(1);
        x.setSub(2);
        for (int t = 0; t < 3; t++) {
            due.is("setCommand(" + t + ")", x.setCommand(t, 5 + t, true), true);
            due.is("commandOf(" + t + ")", x.commandOf(t), 21 + t);
        }
    }

    private static void onlyTheCommandChanges() {
        JobServer x = new JobServer(3, 1, 0);
        x.addPrereq(1, 0, true);
        x.setTime(1, 4);
        String before = Due.everything(x);
        x.setCommand(1, 9, true);
        due.is("commandOf(1)", x.commandOf(1), 25);
        x.setCommand(1, 1, false);
        due.same("all getters with the command set back", Due.everything(x), before);
    }

    private static void theCommandIsUsed() {
        JobServer x = new JobServer(3, 3, 1);
        x.setCommand(0, 3, true);
        x.setCommand(1, 2, false);
        x.setCommand(2, 15, false);
        x.setCommand(2, 1, true);
        x.start();
        due.ticks(x, 1, 1, 1, -1);
        due.statuses("at the end", x, 4, 2, 4);
        due.finishedAt(x, 3, 2, 1);
    }

    private static void theSubmakeCommandIsNotUsed() {
        JobServer x = new JobServer(2, 1, 0);
        x.setSubmake(0);
        x.setSub(1);
        x.setCommand(0, 9, true);
        x.setCommand(1, 2, false);
        x.start();
        due.ticks(x, 0, 2, -1);
        due.statuses("at the end", x, 2, 2);
        due.is("commandOf(0)", x.commandOf(0), 25);
    }

    private static void refusedOnceStarted() {
        JobServer x = new JobServer(2, 1, 0);
        x.start();
        due.refuses("setCommand on a RUNNING one", x, s -> s.setCommand(0, 3, true));
        due.refuses("setCommand on a WAITING one", x, s -> s.setCommand(1, 3, true));
        due.ticks(x, 1, 1, -1);
        due.refuses("setCommand when quiet", x, s -> s.setCommand(1, 3, true));
    }
}
