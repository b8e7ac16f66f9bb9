/** Promise 5: choosing the sub-make target. */
public final class Promise05SetSubmakeTest {
    private static final Due due = new Due();

    public static void main(String[] args) {
        anyTargetMayBeChosen();
        refusedOnceStarted();
        wrongTargetsAreRefused();
        onlyOneIsChosen();
        severalReasonsToRefuse();
        onlyTheLevelChanges();
        allElseIsKeptInTheBuild();
        refusedCallsChangeNothing();
        itStaysTopLevel();
        itNeedsATokenLikeAnyTopTarget();
        itCannotBeChanged();
        due.end();
    }

    private static void anyTargetMayBeChosen() {
        due.sentence("makes s the sub-make target, giving it level LEVEL_SUBMAKE.");
        for (int n : new int[] {1, 2, 31, 32}) {
            for (int s = 0; s < n; s++) {
                int chosen = s;
                JobServer x = new JobServer(n, 1, 0);
                due.changes("setSubmake(" + s + ")", x, y -> y.setSubmake(chosen), true,
                        "level(" + s + ")=" + JobServer.LEVEL_SUBMAKE);
                x.setTime(s, 1);
                x.start();
                due.is("stale at its time", x.status(s), s == 0 ? 1 : 0);
            }
        }
    }

    private static void refusedOnceStarted() {
        due.sentence("the build has started;");
        JobServer x = new JobServer(2, 1, 0);
        x.start();
        due.refuses("setSubmake of a RUNNING one", x, s -> s.setSubmake(0));
        due.refuses("setSubmake of a WAITING one", x, s -> s.setSubmake(1));
        due.ticks(x, 1, 1, -1);
        due.refuses("setSubmake when quiet", x, s -> s.setSubmake(1));
        due.leavesCourse("setSubmake(11)", s -> s.setSubmake(11));
    }

    private static void wrongTargetsAreRefused() {
        due.sentence("s is not in 0..n-1;");
        for (int n : new int[] {1, 5, 31, 32}) {
            JobServer x = new JobServer(n, 1, 0);
            for (int w : Due.outside(n)) {
                due.refuses("setSubmake(" + w + ")", x, s -> s.setSubmake(w));
            }
            due.is("setSubmake after the refused ones", x.setSubmake(n - 1), true);
        }
    }

    private static void onlyOneIsChosen() {
        due.sentence("a sub-make target already exists.");
        for (int first = 0; first < 4; first += 3) {
            JobServer x = new JobServer(4, 1, 0);
            x.setSubmake(first);
            x.setSub(2);
            due.refuses("the first", x, s -> s.setSubmake(0));
            due.refuses("another one", x, s -> s.setSubmake(1));
            due.refuses("a sub target", x, s -> s.setSubmake(2));
            due.refuses("the last", x, s -> s.setSubmake(3));
        }
    }

    private static void severalReasonsToRefuse() {
        due.sentence("Refused (answers false) if, tested in order");
        JobServer x = new JobServer(3, 1, 0);
        x.setSubmake(2);
        for (int w : Due.outside(3)) {
            due.refuses("there is one, no target", x, s -> s.setSubmake(w));
        }
        x.start();
        for (int w : Due.outside(3)) {
            due.refuses("started, there is one, no target", x, s -> s.setSubmake(w));
        }
        due.refuses("started, there is one", x, s -> s.setSubmake(0));
        JobServer none = new JobServer(3, 1, 0);
        none.start();
        for (int w : Due.outside(3)) {
            due.refuses("started, no target", none, s -> s.setSubmake(w));
        }
    }

    private static void onlyTheLevelChanges() {
        due.sentence("Otherwise the call answers true; only the level of s changes (its edges in "
                + "either direction, timestamp and command are kept).");
        JobServer x = new JobServer(5, 2, 0);
        x.addPrereq(1, 0, false);
        x.addPrereq(1, 4, true);
        x.addPrereq(2, 1, true);
        x.addPrereq(3, 1, false);
        x.setTime(1, 12);
        x.setCommand(1, 6, true);
        due.changes("setSubmake(1)", x, s -> s.setSubmake(1), true, "level(1)=2");
        due.is("prereqKind(1, 0)", x.prereqKind(1, 0), JobServer.KIND_NORMAL);
        due.is("prereqKind(1, 4)", x.prereqKind(1, 4), JobServer.KIND_ORDER_ONLY);
        due.is("prereqKind(2, 1)", x.prereqKind(2, 1), JobServer.KIND_ORDER_ONLY);
        due.is("prereqKind(3, 1)", x.prereqKind(3, 1), JobServer.KIND_NORMAL);
        due.is("timeOf(1)", x.timeOf(1), 12);
        due.is("commandOf(1)", x.commandOf(1), 22);
    }

    private static void allElseIsKeptInTheBuild() {
        due.sentence("(its edges in either direction, timestamp and command are kept)");
        JobServer after = new JobServer(4, 1, 0);
        after.setSubmake(1);
        after.addPrereq(1, 3, false);
        after.addPrereq(0, 1, true);
        after.setTime(0, 4);
        JobServer before = new JobServer(4, 1, 0);
        before.addPrereq(1, 3, false);
        before.addPrereq(0, 1, true);
        before.setTime(0, 4);
        before.setSubmake(1);
        due.sameCourse("edges from before and after", before, after);
        due.statuses("at the end", before, 3, 2, 2, 2);
        due.startedAt(before, -1, 2, 0, 1);
        due.finishedAt(before, 3, 3, 1, 2);
    }

    private static void refusedCallsChangeNothing() {
        due.sentence("A refused call changes nothing.");
        JobServer x = new JobServer(4, 2, 0);
        JobServer twin = new JobServer(4, 2, 0);
        for (int w : Due.outside(4)) {
            x.setSubmake(w);
        }
        due.refuses("setSub: there is still no sub-make target", x, s -> s.setSub(1));
        x.setSubmake(2);
        twin.setSubmake(2);
        for (int s = 0; s < 4; s++) {
            x.setSubmake(s);
        }
        due.is("setSub(1)", x.setSub(1), twin.setSub(1));
        due.is("setSub(3)", x.setSub(3), twin.setSub(3));
        due.sameCourse("with refused choices and without", x, twin);
    }

    private static void itStaysTopLevel() {
        due.sentence("The sub-make target stays top-level.");
        JobServer x = new JobServer(5, 1, 0);
        x.setSubmake(1);
        x.setSub(3);
        due.is("sub-make needs top", x.addPrereq(1, 0, false), true);
        due.is("top needs sub-make", x.addPrereq(2, 1, false), true);
        due.refuses("sub-make needs sub", x, s -> s.addPrereq(1, 3, false));
        due.refuses("sub needs sub-make", x, s -> s.addPrereq(3, 1, false));
        x.setTime(4, 1);
        x.start();
        due.statuses("at the start", x, 1, 0, 0, 0, 3);
        due.ticks(x, 1, 2, 1, -1);
        due.startedAt(x, 0, 1, 2, 1, -1);
    }

    private static void itNeedsATokenLikeAnyTopTarget() {
        due.sentence("(the sub-make target included)");
        JobServer x = new JobServer(4, 2, 0);
        x.setSubmake(2);
        x.setSub(3);
        x.start();
        due.statuses("0 and 1 hold all there is", x, 1, 1, 0, 0);
        due.ticks(x, 2);
        due.statuses("the sub-make target runs", x, 2, 2, 1, 1);
        due.is("tokensFree()", x.tokensFree(), 1);
        JobServer first = new JobServer(3, 1, 0);
        first.setSubmake(0);
        first.setSub(2);
        first.start();
        due.statuses("the sub-make target holds the only job of the top", first, 1, 0, 1);
    }

    private static void itCannotBeChanged() {
        due.sentence("Once set, it cannot be changed.");
        JobServer x = new JobServer(3, 1, 0);
        x.setSubmake(1);
        due.refuses("another", x, s -> s.setSubmake(0));
        due.refuses("into the sub-build", x, s -> s.setSub(1));
        x.start();
        due.refuses("another, started", x, s -> s.setSubmake(0));
        Due.toTheEnd(x);
        due.refuses("another, quiet", x, s -> s.setSubmake(0));
        due.is("level(1)", x.level(1), JobServer.LEVEL_SUBMAKE);
    }
}
