/** Promise 6: putting a target into the sub-build. */
public final class Promise06SetSubTest {
    private static final Due due = new Due();

    public static void main(String[] args) {
        allOthersMayBeSubs();
        refusedOnceStarted();
        wrongTargetsAreRefused();
        aSubmakeTargetIsNeeded();
        onlyTopTargetsBecomeSubs();
        targetsWithAPrerequisiteAreRefused();
        prerequisitesAreRefused();
        severalReasonsToRefuse();
        onlyTheLevelChanges();
        refusedCallsChangeNothing();
        noWayBackToTheTop();
        due.end();
    }

    private static void allOthersMayBeSubs() {
        due.sentence("puts t into the sub-build, giving it level LEVEL_SUB.");
        for (int submake = 0; submake < 32; submake += 31) {
            JobServer x = new JobServer(32, 1, 0);
            x.setSubmake(submake);
            for (int t = 0; t < 32; t++) {
                int target = t;
                if (t != submake) {
                    due.changes("setSub(" + t + ")", x, s -> s.setSub(target), true,
                            "level(" + t + ")=" + JobServer.LEVEL_SUB);
                }
            }
            due.is("level of the sub-make target", x.level(submake), JobServer.LEVEL_SUBMAKE);
        }
    }

    private static void refusedOnceStarted() {
        due.sentence("the build has started;");
        JobServer x = new JobServer(3, 1, 0);
        x.setSubmake(0);
        x.start();
        due.refuses("setSub after start()", x, s -> s.setSub(2));
        due.ticks(x, 1);
        due.refuses("setSub of a RUNNING one", x, s -> s.setSub(1));
        due.ticks(x, 1, 1, -1);
        due.refuses("setSub when quiet", x, s -> s.setSub(2));
        due.leavesCourse("setSub(11)", s -> s.setSub(11));
    }

    private static void wrongTargetsAreRefused() {
        due.sentence("t is not in 0..n-1;");
        for (int n : new int[] {2, 5, 31, 32}) {
            JobServer x = new JobServer(n, 1, 0);
            x.setSubmake(0);
            for (int w : Due.outside(n)) {
                due.refuses("setSub(" + w + ")", x, s -> s.setSub(w));
            }
            due.is("setSub of the last", x.setSub(n - 1), true);
        }
    }

    private static void aSubmakeTargetIsNeeded() {
        due.sentence("no sub-make target exists;");
        JobServer x = new JobServer(32, 1, 0);
        for (int t = 0; t < 32; t++) {
            int target = t;
            due.refuses("setSub(" + t + ") without", x, s -> s.setSub(target));
        }
        x.setSubmake(0);
        due.is("setSub(1) with one", x.setSub(1), true);
        due.is("setSub(31) with one", x.setSub(31), true);
    }

    private static void onlyTopTargetsBecomeSubs() {
        due.sentence("t is not LEVEL_TOP;");
        JobServer x = new JobServer(3, 1, 0);
        x.setSubmake(0);
        x.setSub(1);
        due.refuses("the sub-make target", x, s -> s.setSub(0));
        due.refuses("a sub target again", x, s -> s.setSub(1));
        due.is("a top target", x.setSub(2), true);
    }

    private static void targetsWithAPrerequisiteAreRefused() {
        due.sentence("t has a prerequisite;");
        int[][] pairs = {{0, 1}, {1, 0}, {0, 31}, {31, 0}, {30, 31}, {31, 30}};
        for (int[] pair : pairs) {
            for (int kind = 0; kind <= 1; kind++) {
                JobServer x = new JobServer(32, 1, 0);
                x.setSubmake(16);
                x.addPrereq(pair[0], pair[1], kind == 1);
                due.refuses("setSub(" + pair[0] + ")", x, s -> s.setSub(pair[0]));
            }
        }
        JobServer x = new JobServer(2, 1, 0);
        x.setSubmake(1);
        x.addPrereq(0, 1, true);
        due.refuses("needs the sub-make target", x, s -> s.setSub(0));
    }

    private static void prerequisitesAreRefused() {
        due.sentence("t is a prerequisite of some target.");
        int[][] pairs = {{0, 1}, {1, 0}, {0, 31}, {31, 0}, {30, 31}, {31, 30}};
        for (int[] pair : pairs) {
            for (int kind = 0; kind <= 1; kind++) {
                JobServer x = new JobServer(32, 1, 0);
                x.setSubmake(16);
                x.addPrereq(pair[0], pair[1], kind == 1);
                due.refuses("setSub(" + pair[1] + ")", x, s -> s.setSub(pair[1]));
                due.is("setSub(2), without edges", x.setSub(2), true);
            }
        }
        JobServer x = new JobServer(2, 1, 0);
        x.setSubmake(1);
        x.addPrereq(1, 0, true);
        due.refuses("needed by the sub-make target", x, s -> s.setSub(0));
    }

    private static void severalReasonsToRefuse() {
        due.sentence("Refused (answers false) if, tested in order");
        JobServer x = new JobServer(4, 1, 0);
        x.addPrereq(1, 0, false);
        x.addPrereq(2, 1, false);
        for (int w : Due.outside(4)) {
            due.refuses("no target, no sub-make target", x, s -> s.setSub(w));
        }
        due.refuses("no sub-make target, edges both ways", x, s -> s.setSub(1));
        x.setSubmake(1);
        due.refuses("the sub-make target, edges both ways", x, s -> s.setSub(1));
        x.start();
        for (int w : Due.outside(4)) {
            due.refuses("started, no target", x, s -> s.setSub(w));
        }
        due.refuses("started, the sub-make target", x, s -> s.setSub(1));
        due.refuses("started, a prerequisite", x, s -> s.setSub(0));
    }

    private static void onlyTheLevelChanges() {
        due.sentence("Otherwise the call answers true; only the level of t changes.");
        JobServer x = new JobServer(4, 3, 0);
        x.setSubmake(0);
        x.setTime(2, 8);
        x.setCommand(2, 3, true);
        x.setCommand(3, 2, true);
        x.addPrereq(1, 0, true);
        due.changes("setSub(2)", x, s -> s.setSub(2), true, "level(2)=1");
        due.changes("setSub(3)", x, s -> s.setSub(3), true, "level(3)=1");
        JobServer same = new JobServer(4, 3, 0);
        same.setSubmake(0);
        same.setSub(2);
        same.setSub(3);
        same.setTime(2, 8);
        same.setCommand(2, 3, true);
        same.setCommand(3, 2, true);
        same.addPrereq(1, 0, true);
        due.sameCourse("however it came about", x, same);
    }

    private static void refusedCallsChangeNothing() {
        due.sentence("A refused call changes nothing.");
        JobServer x = new JobServer(6, 2, 0);
        x.setSub(3);
        x.addPrereq(1, 0, false);
        x.setSubmake(2);
        x.setSub(4);
        x.setSub(4);
        x.setSub(2);
        x.setSub(1);
        x.setSub(0);
        for (int w : Due.outside(6)) {
            x.setSub(w);
        }
        JobServer twin = new JobServer(6, 2, 0);
        twin.addPrereq(1, 0, false);
        twin.setSubmake(2);
        twin.setSub(4);
        due.sameCourse("with refused calls and without", x, twin);
    }

    private static void noWayBackToTheTop() {
        due.sentence("A sub target cannot be returned to LEVEL_TOP.");
        JobServer x = new JobServer(4, 1, 0);
        x.setSubmake(0);
        x.setSub(1);
        x.setSub(2);
        due.refuses("setSub again", x, s -> s.setSub(1));
        due.refuses("setSubmake", x, s -> s.setSubmake(1));
        due.refuses("an edge to the top", x, s -> s.addPrereq(1, 3, false));
        x.setTime(1, 1);
        x.setCommand(1, 2, false);
        x.addPrereq(1, 2, false);
        due.is("level(1) before start()", x.level(1), JobServer.LEVEL_SUB);
        x.start();
        due.is("level(1) after it", x.level(1), JobServer.LEVEL_SUB);
        Due.toTheEnd(x);
        due.is("level(1) when quiet", x.level(1), JobServer.LEVEL_SUB);
    }
}
