/** Promise 7: starting the build. */
public final class Promise07StartTest {
    private static final Due due = new Due();

    public static void main(String[] args) {
        startSettles();
        startIsRefusedTwice();
        setupIsRefusedAfterwards();
        refusedTicksDoNotMoveTheClock();
        upToDateAllOver();
        dueNowOverSeveralPasses();
        due.end();
    }

    private static void startSettles() {
        JobServer x = new JobServer(5, 2, 0);
        x.setTime(0, 3);
        x.setTime(1, 3);
        x.addPrereq(1, 0, false);
        x.addPrereq(4, 2, false);
        due.is("start()", x.start(), true);
        due.statuses("at the start", x, 3, 3, 1, 1, 0);
        due.startedAt(x, -1, -1, 0, 0, -1);
        due.finishedAt(x, 0, 0, -1, -1, -1);
        due.is("tokensFree()", x.tokensFree(), 0);
    }

    private static void startIsRefusedTwice() {
        JobServer x = new JobServer(2, 1, 0);
        x.setCommand(0, 2, false);
        due.is("start()", x.start(), true);
        due.refuses("start() again", x, s -> s.start());
        due.ticks(x, 0);
        due.refuses("start() in the midst", x, s -> s.start());
        due.ticks(x, 1, 1, -1);
        due.refuses("start() when quiet", x, s -> s.start());
        due.finishedAt(x, 2, 3);
    }

    private static void setupIsRefusedAfterwards() {
        JobServer x = new JobServer(4, 1, 0);
        x.setSubmake(0);
        x.start();
        due.refuses("addPrereq", x, s -> s.addPrereq(2, 1, false));
        due.refuses("setTime", x, s -> s.setTime(2, 1));
        due.refuses("setCommand", x, s -> s.setCommand(2, 2, true));
        due.refuses("setSubmake", x, s -> s.setSubmake(2));
        due.refuses("setSub", x, s -> s.setSub(2));
    }

    private static void refusedTicksDoNotMoveTheClock() {
        JobServer x = new JobServer(1, 1, 0);
        due.ticks(x, -1, -1, -1);
        x.start();
        due.startedAt(x, 0);
        due.ticks(x, 1);
        due.finishedAt(x, 1);
    }

    private static void upToDateAllOver() {
        JobServer x = new JobServer(3, 1, 0);
        for (int t = 0; t < 3; t++) {
            x.setTime(t, 1);
        }
        due.is("start()", x.start(), true);
        due.statuses("at the start", x, 3, 3, 3);
        due.finishedAt(x, 0, 0, 0);
        due.is("isQuiet()", x.isQuiet(), true);
        due.is("tick()", x.tick(), -1);
    }

    /** Each pass from 0 up can mark only one more of a chain that runs downwards. */
    private static void dueNowOverSeveralPasses() {
        JobServer x = new JobServer(32, 1, 0);
        for (int t = 0; t < 31; t++) {
            x.addPrereq(t, t + 1, false);
            x.setTime(t + 1, 9);
        }
        due.is("start()", x.start(), true);
        for (int t = 1; t < 32; t++) {
            due.is("status(" + t + ")", x.status(t), JobServer.STATUS_UPTODATE);
        }
        due.is("status(0)", x.status(0), JobServer.STATUS_RUNNING);
        due.is("startedAt(0)", x.startedAt(0), 0);
    }
}
