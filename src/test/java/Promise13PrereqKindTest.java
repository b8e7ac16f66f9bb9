/** Promise 13: edge kind. */
public final class Promise13PrereqKindTest {
    private static final Due due = new Due();

    public static void main(String[] args) {
        everyKind();
        noneIfNoPrerequisite();
        noneOfItself();
        wrongTargets();
        wrongPrerequisites();
        edgesOutliveTheBuild();
        theCallChangesNothing();
        due.end();
    }

    private static void everyKind() {
        due.sentence("answers the kind of edge from t to prerequisite p as a KIND_ constant");
        JobServer x = new JobServer(32, 1, 0);
        x.addPrereq(31, 0, false);
        x.addPrereq(31, 30, true);
        x.addPrereq(0, 30, true);
        for (int t = 0; t < 32; t++) {
            for (int p = 0; p < 32; p++) {
                boolean normal = t == 31 && p == 0;
                boolean orderOnly = (t == 31 || t == 0) && p == 30;
                int want = normal ? JobServer.KIND_NORMAL
                        : orderOnly ? JobServer.KIND_ORDER_ONLY : JobServer.KIND_NONE;
                due.is("prereqKind(" + t + ", " + p + ")", x.prereqKind(t, p), want);
            }
        }
    }

    /** Neither the way back nor a prerequisite's prerequisite is an edge. */
    private static void noneIfNoPrerequisite() {
        due.sentence("or KIND_NONE if p is not a prerequisite of t");
        JobServer x = new JobServer(4, 1, 0);
        x.addPrereq(0, 1, false);
        x.addPrereq(1, 2, true);
        due.is("prereqKind(1, 0), back", x.prereqKind(1, 0), JobServer.KIND_NONE);
        due.is("prereqKind(2, 1), back", x.prereqKind(2, 1), JobServer.KIND_NONE);
        due.is("prereqKind(0, 2), over two", x.prereqKind(0, 2), JobServer.KIND_NONE);
        due.is("prereqKind(3, 0), no edge", x.prereqKind(3, 0), JobServer.KIND_NONE);
        x.addPrereq(2, 0, true);
        due.is("prereqKind(2, 0), refused", x.prereqKind(2, 0), JobServer.KIND_NONE);
    }

    private static void noneOfItself() {
        due.sentence("(including t == p)");
        JobServer x = new JobServer(32, 1, 0);
        for (int t = 1; t < 32; t++) {
            x.addPrereq(t, t - 1, t % 2 == 0);
        }
        for (int t = 0; t < 32; t++) {
            int same = t;
            x.addPrereq(t, t, false);
            due.leaves("prereqKind of " + t + " twice", x, s -> s.prereqKind(same, same), 0);
        }
    }

    private static void wrongTargets() {
        due.sentence("Answers -1 if t or p is not in 0..n-1.", "t");
        for (int n : new int[] {1, 2, 6, 31, 32}) {
            JobServer x = withAllEdges(n);
            for (int w : Due.outside(n)) {
                due.leaves("prereqKind(" + w + ", 0)", x, s -> s.prereqKind(w, 0), -1);
                due.leaves("prereqKind(" + w + ", last)", x, s -> s.prereqKind(w, n - 1), -1);
                due.leaves("prereqKind of " + w + " twice", x, s -> s.prereqKind(w, w), -1);
            }
        }
    }

    private static void wrongPrerequisites() {
        due.sentence("Answers -1 if t or p is not in 0..n-1.", "p");
        for (int n : new int[] {1, 2, 6, 31, 32}) {
            JobServer x = withAllEdges(n);
            for (int w : Due.outside(n)) {
                due.leaves("prereqKind(0, " + w + ")", x, s -> s.prereqKind(0, w), -1);
                due.leaves("prereqKind(last, " + w + ")", x, s -> s.prereqKind(n - 1, w), -1);
            }
        }
    }

    /** With all edges there are, so that a number cut to 5 bits would meet one. */
    private static JobServer withAllEdges(int n) {
        JobServer x = new JobServer(n, 3, 1);
        for (int t = 0; t < n; t++) {
            for (int p = 0; p < t; p++) {
                x.addPrereq(t, p, (t + p) % 2 == 0);
            }
        }
        return x;
    }

    private static void edgesOutliveTheBuild() {
        due.sentence("KIND_NORMAL, KIND_ORDER_ONLY, or KIND_NONE",
                "also once the build has started");
        JobServer x = new JobServer(3, 1, 0);
        x.addPrereq(0, 1, false);
        x.addPrereq(0, 2, true);
        x.start();
        for (int tick = 0; tick < 5; tick++) {
            due.is("prereqKind(0, 1)", x.prereqKind(0, 1), JobServer.KIND_NORMAL);
            due.is("prereqKind(0, 2)", x.prereqKind(0, 2), JobServer.KIND_ORDER_ONLY);
            due.is("prereqKind(2, 0)", x.prereqKind(2, 0), JobServer.KIND_NONE);
            due.is("prereqKind(1, 1)", x.prereqKind(1, 1), JobServer.KIND_NONE);
            x.tick();
        }
    }

    private static void theCallChangesNothing() {
        due.sentence("Changes nothing.");
        JobServer x = withAllEdges(5);
        for (int t = -2; t < 7; t++) {
            for (int p = -2; p < 7; p++) {
                x.prereqKind(t, p);
            }
        }
        due.sameCourse("looked at and not", x, withAllEdges(5));
        due.leavesCourse("prereqKind", s -> s.prereqKind(9, 8));
        due.leavesCourse("prereqKind of no target", s -> s.prereqKind(9, 12));
    }
}
