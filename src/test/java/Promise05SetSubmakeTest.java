/** Promise 5: choosing the sub-make target. */
public final class Promise05SetSubmakeTest {
    private static final Due due = new Due();

    public static void main(String[] args) {
        anyTargetMayBeChosen();
        wrongTargetsAreRefused();
        onlyOneIsChosen();
        allElseIsKept();
        itStaysTopLevel();
        refusedOnceStarted();
        due.end();
    }

    private static void anyTargetMayBeChosen() {
        for (int s = 0; s < 32; s++) {
            JobServer x = new JobServer(32, 1, 0);
            due.is("setSubmake(" + s + ")", x.setSubmake(s), true);
            for (int t = 0; t < 32; t++) {
                int want = t == s ? JobServer.LEVEL_SUBMAKE : JobServer.LEVEL_TOP;
                due.is("level(" + t + ")", x.level(t), want);
            }
        }
    }

    private static void wrongTargetsAreRefused() {
        JobServer x = new JobServer(5, 1, 0);
        int[] wrong = {Integer.MIN_VALUE, -2, -1, 5, 31, 32, Integer.MAX_VALUE};
        for (int w : wrong) {
            due.refuses("setSubmake(" + w + ")", x, s -> s.setSubmake(w));
        }
        due.is("setSubmake(4) after the refused ones", x.setSubmake(4), true);
    }

    private static void onlyOneIsChosen() {
        JobServer x = new JobServer(4, 1, 0);
        x.setSubmake(0);
        x.setSub(2);
        due.refuses("the same again", x, s -> s.setSubmake(0));
        due.refuses("another one", x, s -> s.setSubmake(1));
        due.refuses("a sub target", x, s -> s.setSubmake(2));
    }

    private static void allElseIsKept() {
        JobServer x = new JobServer(4, 2, 0);
        x.addPrereq(1, 0, false);
        x.addPrereq(2, 1, true);
        x.setTime(1, 12);
        x.setCommand(1, 6, true);
        due.is("setSubmake(1)", x.setSubmake(1), true);
        due.is("prereqKind(1, 0)", x.prereqKind(1, 0), JobServer.KIND_NORMAL);
        due.is("prereqKind(2, 1)", x.prereqKind(2, 1), JobServer.KIND_ORDER_ONLY);
        due.is("timeOf(1)", x.timeOf(1), 12);
        due.is("commandOf(1)", x.commandOf(1), 22);
        due.is("status(1)", x.status(1), JobServer.STATUS_WAITING);
        due.is("tokensFree()", x.tokensFree(), 1);
    }

    private static void itStaysTopLevel() {
        JobServer x = new JobServer(3, 1, 0);
        x.setSubmake(1);
        due.is("sub-make needs top", x.addPrereq(1, 0, false), true);
        due.is("top needs sub-make", x.addPrereq(2, 1, false), true);
        x.start();
        due.statuses("at the start", x, 1, 0, 0);
        due.ticks(x, 1, 1, 1, -1);
        due.startedAt(x, 0, 1, 2);
    }

    private static void refusedOnceStarted() {
        JobServer x = new JobServer(2, 1, 0);
        x.start();
        due.refuses("setSubmake after start()", x, s -> s.setSubmake(1));
        due.ticks(x, 1, 1, -1);
        due.refuses("setSubmake when quiet", x, s -> s.setSubmake(1));
    }
}
