/** Promise 2: adding a prerequisite. */
public final class Promise02AddPrereqTest {
    private static final Due due = new Due();

    public static void main(String[] args) {
        bothKindsAreRecorded();
        wrongTargetsAreRefused();
        anEdgeIsNeverReplaced();
        levelsMustMatch();
        cyclesAreRefused();
        longCyclesAreRefused();
        everyEdgeOfAFullGraph();
        refusedOnceStarted();
        due.end();
    }

    private static void bothKindsAreRecorded() {
        JobServer x = new JobServer(32, 1, 0);
        due.is("addPrereq(0, 31, false)", x.addPrereq(0, 31, false), true);
        due.is("prereqKind(0, 31)", x.prereqKind(0, 31), JobServer.KIND_NORMAL);
        due.is("addPrereq(30, 1, true)", x.addPrereq(30, 1, true), true);
        due.is("prereqKind(30, 1)", x.prereqKind(30, 1), JobServer.KIND_ORDER_ONLY);
        due.is("prereqKind(31, 0)", x.prereqKind(31, 0), JobServer.KIND_NONE);
        for (int t = 0; t < 32; t++) {
            due.is("status(" + t + ")", x.status(t), JobServer.STATUS_WAITING);
            due.is("timeOf(" + t + ")", x.timeOf(t), 0);
        }
    }

    private static void wrongTargetsAreRefused() {
        JobServer x = new JobServer(4, 1, 0);
        int[] wrong = {Integer.MIN_VALUE, -32, -1, 4, 5, 32, 36, Integer.MAX_VALUE};
        for (int w : wrong) {
            due.refuses("addPrereq(" + w + ", 0)", x, s -> s.addPrereq(w, 0, false));
            due.refuses("addPrereq(0, " + w + ")", x, s -> s.addPrereq(0, w, true));
            due.refuses("addPrereq(" + w + ", itself)", x, s -> s.addPrereq(w, w, true));
        }
        due.refuses("addPrereq(0, 0, false)", x, s -> s.addPrereq(0, 0, false));
        due.refuses("addPrereq(3, 3, true)", x, s -> s.addPrereq(3, 3, true));
    }

    private static void anEdgeIsNeverReplaced() {
        JobServer x = new JobServer(4, 1, 0);
        x.addPrereq(1, 0, false);
        x.addPrereq(2, 0, true);
        due.refuses("NORMAL again", x, s -> s.addPrereq(1, 0, false));
        due.refuses("NORMAL to ORDER_ONLY", x, s -> s.addPrereq(1, 0, true));
        due.refuses("ORDER_ONLY again", x, s -> s.addPrereq(2, 0, true));
        due.refuses("ORDER_ONLY to NORMAL", x, s -> s.addPrereq(2, 0, false));
    }

    private static void levelsMustMatch() {
        JobServer x = new JobServer(6, 1, 0);
        x.setSubmake(0);
        x.setSub(1);
        x.setSub(2);
        due.refuses("sub needs top", x, s -> s.addPrereq(1, 3, false));
        due.refuses("top needs sub", x, s -> s.addPrereq(3, 1, false));
        due.refuses("sub needs sub-make", x, s -> s.addPrereq(1, 0, true));
        due.refuses("sub-make needs sub", x, s -> s.addPrereq(0, 1, true));
        due.is("sub needs sub", x.addPrereq(1, 2, false), true);
        due.is("sub-make needs top", x.addPrereq(0, 3, false), true);
        due.is("top needs sub-make", x.addPrereq(4, 0, true), true);
        due.is("top needs top", x.addPrereq(5, 3, true), true);
        due.refuses("cycle among subs", x, s -> s.addPrereq(2, 1, true));
        due.refuses("cycle through the sub-make target", x, s -> s.addPrereq(3, 4, false));
    }

    private static void cyclesAreRefused() {
        JobServer x = new JobServer(5, 1, 0);
        x.addPrereq(0, 1, false);
        x.addPrereq(1, 2, true);
        x.addPrereq(2, 3, false);
        due.refuses("back over one edge", x, s -> s.addPrereq(1, 0, false));
        due.refuses("back over two edges", x, s -> s.addPrereq(2, 0, true));
        due.refuses("back over three edges", x, s -> s.addPrereq(3, 0, false));
        due.refuses("back over the ORDER_ONLY edge", x, s -> s.addPrereq(2, 1, false));
        due.is("a second way forward", x.addPrereq(0, 3, true), true);
        due.is("a new prerequisite of the last", x.addPrereq(3, 4, true), true);
        due.is("a diamond", x.addPrereq(1, 4, false), true);
        due.refuses("back from the new last", x, s -> s.addPrereq(4, 0, true));
    }

    /** Upwards and downwards, so that no order of looking finds both by luck. */
    private static void longCyclesAreRefused() {
        JobServer up = new JobServer(32, 1, 0);
        JobServer down = new JobServer(32, 1, 0);
        for (int t = 0; t < 31; t++) {
            due.is("up", up.addPrereq(t, t + 1, t % 2 == 0), true);
            due.is("down", down.addPrereq(t + 1, t, t % 3 == 0), true);
        }
        due.refuses("up, closed", up, s -> s.addPrereq(31, 0, false));
        due.refuses("down, closed", down, s -> s.addPrereq(0, 31, true));
        due.is("up, a short cut", up.addPrereq(0, 31, false), true);
        due.is("down, a short cut", down.addPrereq(31, 0, false), true);
    }

    private static void everyEdgeOfAFullGraph() {
        JobServer x = new JobServer(32, 1, 0);
        for (int t = 0; t < 32; t++) {
            for (int p = 0; p < t; p++) {
                due.is("full graph", x.addPrereq(t, p, (t + p) % 2 == 0), true);
                due.is("full graph, back", x.addPrereq(p, t, false), false);
            }
        }
        for (int t = 0; t < 32; t++) {
            for (int p = 0; p < 32; p++) {
                int want = p >= t ? 0 : (t + p) % 2 == 0 ? 2 : 1;
                due.is("prereqKind(" + t + ", " + p + ")", x.prereqKind(t, p), want);
            }
        }
    }

    private static void refusedOnceStarted() {
        JobServer x = new JobServer(4, 1, 0);
        x.start();
        due.refuses("addPrereq after start()", x, s -> s.addPrereq(3, 2, false));
        due.ticks(x, 1, 1, 1, 1, -1);
        due.refuses("addPrereq when quiet", x, s -> s.addPrereq(3, 2, true));
    }
}
