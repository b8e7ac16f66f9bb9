/** Promise 3: setting a timestamp. */
public final class Promise03SetTimeTest {
    private static final Due due = new Due();

    public static void main(String[] args) {
        edgesAreAccepted();
        wrongInputsAreRefused();
        everyLevelTakesATime();
        onlyTheTimeChanges();
        refusedOnceStarted();
        due.end();
    }

    private static void edgesAreAccepted() {
        JobServer x = new JobServer(3, 1, 0);
        int[] times = {1, 0, JobServer.MAX_TIME, JobServer.MAX_TIME - 1, 0, 77};
        for (int time : times) {
            due.is("setTime(2, " + time + ")", x.setTime(2, time), true);
            due.is("timeOf(2)", x.timeOf(2), time);
        }
        due.is("timeOf(1)", x.timeOf(1), 0);
    }

    private static void wrongInputsAreRefused() {
        JobServer x = new JobServer(3, 1, 0);
        x.setTime(1, 40);
        int[] wrongTimes = {Integer.MIN_VALUE, -1, JobServer.MAX_TIME + 1, Integer.MAX_VALUE};
        for (int w : wrongTimes) {
            due.refuses("setTime(1, " + w + ")", x, s -> s.setTime(1, w));
        }
        int[] wrongTargets = {Integer.MIN_VALUE, -1, 3, 31, 32, 35, Integer.MAX_VALUE};
        for (int w : wrongTargets) {
            due.refuses("setTime(" + w + ", 9)", x, s -> s.setTime(w, 9));
        }
    }

    private static void everyLevelTakesATime() {
        JobServer x = new JobServer(3, 1, 0);
        x.setSubmake(1);
        x.setSub(2);
        for (int t = 0; t < 3; t++) {
            due.is("setTime(" + t + ")", x.setTime(t, 10 + t), true);
            due.is("timeOf(" + t + ")", x.timeOf(t), 10 + t);
        }
    }

    private static void onlyTheTimeChanges() {
        JobServer x = new JobServer(3, 1, 0);
        x.addPrereq(1, 0, true);
        x.setCommand(1, 4, true);
        String before = Due.everything(x);
        x.setTime(1, 300);
        due.is("timeOf(1)", x.timeOf(1), 300);
        x.setTime(1, 0);
        due.same("all getters with the time set back", Due.everything(x), before);
    }

    private static void refusedOnceStarted() {
        JobServer x = new JobServer(2, 1, 0);
        x.setTime(0, 6);
        x.start();
        due.refuses("setTime on an UPTODATE one", x, s -> s.setTime(0, 7));
        due.refuses("setTime on a RUNNING one", x, s -> s.setTime(1, 7));
        due.ticks(x, 1, -1);
        due.refuses("setTime on a REMADE one", x, s -> s.setTime(1, 7));
    }
}
