/** Promise 2: adding a prerequisite. */
public final class Promise02AddPrereqTest {
    private static final Due due = new Due();

    public static void main(String[] args) {
        bothKindsAreRecorded();
        refusedOnceStarted();
        wrongTargetsAreRefused();
        wrongPrerequisitesAreRefused();
        aTargetIsNotItsOwnPrerequisite();
        subAndTopLevelDoNotMix();
        levelsCountAtTheMomentOfTheCall();
        aSecondEdgeIsRefused();
        anEdgeIsNeverReplaced();
        shortCyclesAreRefused();
        cyclesOverEitherKindAreRefused();
        longCyclesAreRefused();
        waysForwardAreNoCycles();
        everyEdgeOfAFullGraph();
        severalReasonsToRefuse();
        refusedCallsChangeNothing();
        noOtherStateChanges();
        due.end();
    }

    private static void bothKindsAreRecorded() {
        due.sentence("makes p a prerequisite of t: ORDER_ONLY if orderOnly is true, otherwise "
                + "NORMAL.");
        int[][] pairs = {{0, 1}, {1, 0}, {0, 31}, {31, 0}, {30, 31}, {31, 30}, {15, 16}};
        for (int[] pair : pairs) {
            int t = pair[0];
            int p = pair[1];
            String kind = "prereqKind(" + t + ", " + p + ")=";
            due.changes("addPrereq, NORMAL", new JobServer(32, 1, 0),
                    s -> s.addPrereq(t, p, false), true, kind + JobServer.KIND_NORMAL);
            due.changes("addPrereq, ORDER_ONLY", new JobServer(32, 1, 0),
                    s -> s.addPrereq(t, p, true), true, kind + JobServer.KIND_ORDER_ONLY);
        }
    }

    private static void refusedOnceStarted() {
        due.sentence("the build has started;");
        JobServer x = new JobServer(4, 1, 0);
        x.start();
        due.refuses("addPrereq after start()", x, s -> s.addPrereq(3, 2, false));
        due.ticks(x, 1);
        due.refuses("addPrereq in the midst", x, s -> s.addPrereq(3, 2, true));
        due.ticks(x, 1, 1, 1, -1);
        due.refuses("addPrereq when quiet", x, s -> s.addPrereq(3, 2, true));
        due.leavesCourse("addPrereq(11, 8, false)", s -> s.addPrereq(11, 8, false));
        due.leavesCourse("addPrereq(7, 6, true)", s -> s.addPrereq(7, 6, true));
    }

    private static void wrongTargetsAreRefused() {
        due.sentence("t is not in 0..n-1;");
        for (int n : new int[] {2, 4, 31, 32}) {
            JobServer x = new JobServer(n, 1, 0);
            for (int w : Due.outside(n)) {
                due.refuses("addPrereq(" + w + ", 0)", x, s -> s.addPrereq(w, 0, false));
                due.refuses("addPrereq(" + w + ", 1)", x, s -> s.addPrereq(w, 1, true));
            }
            due.is("the last target", x.addPrereq(n - 1, 0, false), true);
        }
    }

    private static void wrongPrerequisitesAreRefused() {
        due.sentence("p is not in 0..n-1;");
        for (int n : new int[] {2, 4, 31, 32}) {
            JobServer x = new JobServer(n, 1, 0);
            for (int w : Due.outside(n)) {
                due.refuses("addPrereq(0, " + w + ")", x, s -> s.addPrereq(0, w, false));
                due.refuses("addPrereq(1, " + w + ")", x, s -> s.addPrereq(1, w, true));
            }
            due.is("the last prerequisite", x.addPrereq(0, n - 1, true), true);
        }
    }

    private static void aTargetIsNotItsOwnPrerequisite() {
        due.sentence("t == p;");
        for (int n : new int[] {1, 4, 32}) {
            JobServer x = new JobServer(n, 1, 0);
            for (int t = 0; t < n; t++) {
                int same = t;
                due.refuses("addPrereq of itself", x, s -> s.addPrereq(same, same, false));
                due.refuses("addPrereq of itself", x, s -> s.addPrereq(same, same, true));
            }
        }
    }

    private static void subAndTopLevelDoNotMix() {
        due.sentence("one of t and p is sub and the other is top-level");
        JobServer x = new JobServer(6, 1, 0);
        x.setSubmake(0);
        x.setSub(1);
        x.setSub(2);
        due.refuses("sub needs top", x, s -> s.addPrereq(1, 3, false));
        due.refuses("top needs sub", x, s -> s.addPrereq(3, 1, false));
        due.refuses("sub needs sub-make", x, s -> s.addPrereq(1, 0, true));
        due.refuses("sub-make needs sub", x, s -> s.addPrereq(0, 1, true));
        due.is("sub needs sub", x.addPrereq(1, 2, false), true);
        due.is("sub-make needs top", x.addPrereq(0, 3, false), true);
        due.is("top needs sub-make", x.addPrereq(4, 0, true), true);
        due.is("top needs top", x.addPrereq(5, 3, true), true);
    }

    private static void levelsCountAtTheMomentOfTheCall() {
        due.sentence("(levels as they are at the moment of the call)");
        JobServer x = new JobServer(6, 1, 0);
        due.is("top needs top", x.addPrereq(1, 0, false), true);
        x.setSubmake(0);
        due.is("another top needs what is now the sub-make target", x.addPrereq(2, 0, true), true);
        x.setSub(3);
        due.refuses("sub needs what is still top", x, s -> s.addPrereq(3, 4, false));
        due.refuses("what is still top needs sub", x, s -> s.addPrereq(4, 3, true));
        x.setSub(4);
        due.is("sub needs what is now sub", x.addPrereq(3, 4, false), true);
        due.refuses("what is now sub needs top", x, s -> s.addPrereq(4, 5, false));
    }

    private static void aSecondEdgeIsRefused() {
        due.sentence("t already has p as a prerequisite of either kind");
        JobServer x = new JobServer(32, 1, 0);
        x.addPrereq(31, 0, false);
        x.addPrereq(0, 30, true);
        due.refuses("NORMAL again", x, s -> s.addPrereq(31, 0, false));
        due.refuses("ORDER_ONLY on NORMAL", x, s -> s.addPrereq(31, 0, true));
        due.refuses("ORDER_ONLY again", x, s -> s.addPrereq(0, 30, true));
        due.refuses("NORMAL on ORDER_ONLY", x, s -> s.addPrereq(0, 30, false));
    }

    /** A kind that changed in secret would show in what is stale. */
    private static void anEdgeIsNeverReplaced() {
        due.sentence("(an existing edge is never changed or replaced)");
        JobServer x = new JobServer(4, 2, 0);
        x.addPrereq(1, 0, false);
        x.addPrereq(3, 2, true);
        due.is("addPrereq(1, 0, true)", x.addPrereq(1, 0, true), false);
        due.is("addPrereq(3, 2, false)", x.addPrereq(3, 2, false), false);
        due.is("prereqKind(1, 0)", x.prereqKind(1, 0), JobServer.KIND_NORMAL);
        due.is("prereqKind(3, 2)", x.prereqKind(3, 2), JobServer.KIND_ORDER_ONLY);
        x.setTime(0, 2);
        x.setTime(1, 1);
        x.setTime(2, 2);
        x.setTime(3, 1);
        x.start();
        due.statuses("only 1 is stale", x, 3, 1, 3, 3);
    }

    private static void shortCyclesAreRefused() {
        due.sentence("t is reachable from p by following prerequisite edges of either kind.");
        int[][] pairs = {{0, 1}, {1, 0}, {0, 31}, {31, 0}, {30, 31}, {31, 30}};
        for (int[] pair : pairs) {
            int t = pair[0];
            int p = pair[1];
            for (int kind = 0; kind < 4; kind++) {
                boolean forth = kind % 2 == 0;
                boolean back = kind / 2 == 0;
                JobServer x = new JobServer(32, 1, 0);
                x.addPrereq(t, p, forth);
                due.refuses("back over one edge", x, s -> s.addPrereq(p, t, back));
            }
        }
    }

    private static void cyclesOverEitherKindAreRefused() {
        due.sentence("edges of either kind.", "a mixed way, also within the sub-build");
        for (int kinds = 0; kinds < 8; kinds++) {
            JobServer top = new JobServer(4, 1, 0);
            JobServer sub = new JobServer(5, 1, 0);
            sub.setSubmake(4);
            for (int t = 0; t < 4; t++) {
                sub.setSub(t);
            }
            for (int t = 0; t < 3; t++) {
                boolean orderOnly = (kinds >> t & 1) == 1;
                top.addPrereq(t, t + 1, orderOnly);
                sub.addPrereq(t, t + 1, orderOnly);
            }
            for (JobServer x : new JobServer[] {top, sub}) {
                due.refuses("over two edges", x, s -> s.addPrereq(2, 0, false));
                due.refuses("over the last two edges", x, s -> s.addPrereq(3, 1, true));
                due.refuses("over three edges", x, s -> s.addPrereq(3, 0, false));
            }
        }
        JobServer x = new JobServer(3, 1, 0);
        x.setSubmake(1);
        x.addPrereq(0, 1, false);
        x.addPrereq(1, 2, true);
        due.refuses("through the sub-make target", x, s -> s.addPrereq(2, 0, false));
    }

    /** Upwards and downwards, so that no order of looking finds both by luck. */
    private static void longCyclesAreRefused() {
        due.sentence("The graph never has a cycle.");
        JobServer up = new JobServer(32, 1, 0);
        JobServer down = new JobServer(32, 1, 0);
        JobServer mixed = new JobServer(32, 1, 0);
        for (int t = 0; t < 31; t++) {
            due.is("up", up.addPrereq(t, t + 1, t % 2 == 0), true);
            due.is("down", down.addPrereq(t + 1, t, t % 3 == 0), true);
            due.is("mixed", mixed.addPrereq(t * 7 % 32, (t + 1) * 7 % 32, t % 5 == 0), true);
        }
        due.refuses("up, closed", up, s -> s.addPrereq(31, 0, false));
        due.refuses("down, closed", down, s -> s.addPrereq(0, 31, true));
        due.refuses("mixed, closed", mixed, s -> s.addPrereq(31 * 7 % 32, 0, false));
        due.is("up, a short cut", up.addPrereq(0, 31, false), true);
        due.is("down, a short cut", down.addPrereq(31, 0, false), true);
        due.is("mixed, a short cut", mixed.addPrereq(0, 31 * 7 % 32, true), true);
    }

    private static void waysForwardAreNoCycles() {
        due.sentence("Otherwise the edge is recorded and the call answers true");
        JobServer x = new JobServer(6, 1, 0);
        x.addPrereq(0, 1, false);
        x.addPrereq(1, 2, true);
        x.addPrereq(2, 3, false);
        due.is("a short cut", x.addPrereq(0, 3, true), true);
        due.is("a new prerequisite of the last", x.addPrereq(3, 4, true), true);
        due.is("a diamond", x.addPrereq(1, 4, false), true);
        due.is("a second target over the first", x.addPrereq(5, 0, false), true);
        due.is("and over the last", x.addPrereq(5, 4, true), true);
        due.is("prereqKind(5, 4)", x.prereqKind(5, 4), JobServer.KIND_ORDER_ONLY);
        due.is("prereqKind(1, 4)", x.prereqKind(1, 4), JobServer.KIND_NORMAL);
    }

    private static void everyEdgeOfAFullGraph() {
        due.sentence("afterwards prereqKind(t, p) answers KIND_ORDER_ONLY or KIND_NORMAL "
                + "accordingly.");
        JobServer x = new JobServer(32, 1, 0);
        for (int t = 0; t < 32; t++) {
            for (int p = 0; p < t; p++) {
                due.is("full graph", x.addPrereq(t, p, (t + p) % 2 == 0), true);
                due.is("full graph, back", x.addPrereq(p, t, false), false);
            }
        }
        for (int t = 0; t < 32; t++) {
            for (int p = 0; p < 32; p++) {
                int want = p >= t ? 0 : (t + p) % 2 == 0 ? 2 : 1;
                due.is("prereqKind(" + t + ", " + p + ")", x.prereqKind(t, p), want);
            }
        }
    }

    private static void severalReasonsToRefuse() {
        due.sentence("The call is refused (answers false) at the first test that holds, tested in "
                + "this order:");
        JobServer x = new JobServer(5, 1, 0);
        x.setSubmake(0);
        x.setSub(1);
        x.addPrereq(3, 2, false);
        for (int w : Due.outside(5)) {
            due.refuses("both out of range", x, s -> s.addPrereq(w, w, true));
            due.refuses("both out of range, apart", x, s -> s.addPrereq(w, -1, false));
        }
        due.refuses("a sub target and itself", x, s -> s.addPrereq(1, 1, false));
        x.start();
        for (int w : Due.outside(5)) {
            due.refuses("started, t out of range", x, s -> s.addPrereq(w, 2, true));
            due.refuses("started, p out of range", x, s -> s.addPrereq(2, w, true));
            due.refuses("started, both out of range", x, s -> s.addPrereq(w, w, false));
        }
        due.refuses("started, itself", x, s -> s.addPrereq(2, 2, false));
        due.refuses("started, sub and top", x, s -> s.addPrereq(1, 2, false));
        due.refuses("started, there already", x, s -> s.addPrereq(3, 2, false));
        due.refuses("started, a cycle", x, s -> s.addPrereq(2, 3, false));
    }

    private static void refusedCallsChangeNothing() {
        due.sentence("A refused call changes nothing.");
        for (int keepGoing = 0; keepGoing <= 1; keepGoing++) {
            JobServer x = withSomeEdges(keepGoing);
            for (int w : Due.outside(6)) {
                x.addPrereq(w, 0, false);
                x.addPrereq(0, w, false);
            }
            x.addPrereq(5, 5, false);
            x.addPrereq(4, 5, false);
            x.addPrereq(5, 4, true);
            x.addPrereq(1, 0, true);
            x.addPrereq(2, 1, false);
            x.addPrereq(0, 2, false);
            due.is("what a refused edge would close", x.addPrereq(2, 0, true), true);
            JobServer twin = withSomeEdges(keepGoing);
            twin.addPrereq(2, 0, true);
            due.sameCourse("with refused edges and without", x, twin);
        }
    }

    private static JobServer withSomeEdges(int keepGoing) {
        JobServer x = new JobServer(6, 2, keepGoing);
        x.setSubmake(3);
        x.setSub(4);
        x.addPrereq(1, 0, false);
        x.addPrereq(2, 1, true);
        x.setTime(1, 5);
        x.setTime(2, 5);
        x.setCommand(0, 2, false);
        return x;
    }

    private static void noOtherStateChanges() {
        due.sentence("No other state changes in either case.");
        JobServer x = withSomeEdges(0);
        x.setTime(5, 9);
        x.setCommand(5, 3, true);
        x.setTime(3, 8);
        x.setCommand(3, 4, true);
        due.changes("accepted, NORMAL", x, s -> s.addPrereq(5, 0, false), true,
                "prereqKind(5, 0)=1");
        due.changes("accepted, ORDER_ONLY", x, s -> s.addPrereq(3, 0, true), true,
                "prereqKind(3, 0)=2");
        due.refuses("refused", x, s -> s.addPrereq(0, 3, false));
        due.is("addPrereq leaves setup open", x.setTime(0, 1), true);
        due.is("addPrereq leaves the build unstarted", x.start(), true);
    }
}
