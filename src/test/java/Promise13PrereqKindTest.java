/** Promise 13: edge kind. */
public final class Promise13PrereqKindTest {
    private static final Due due = new Due();

    public static void main(String[] args) {
        everyKind();
        edgesOutliveTheBuild();
        wrongTargets();
        due.end();
    }

    private static void everyKind() {
        JobServer x = new JobServer(32, 1, 0);
        x.addPrereq(31, 0, false);
        x.addPrereq(31, 30, true);
        x.addPrereq(0, 30, true);
        for (int t = 0; t < 32; t++) {
            for (int p = 0; p < 32; p++) {
                boolean normal = t == 31 && p == 0;
                boolean orderOnly = (t == 31 || t == 0) && p == 30;
                int want = normal ? JobServer.KIND_NORMAL
                        : orderOnly ? JobServer.KIND_ORDER_ONLY : JobServer.KIND_NONE;
                due.is("prereqKind(" + t + ", " + p + ")", x.prereqKind(t, p), want);
            }
        }
    }

    private static void edgesOutliveTheBuild() {
        JobServer x = new JobServer(3, 1, 0);
        x.addPrereq(0, 1, false);
        x.addPrereq(0, 2, true);
        x.start();
        due.ticks(x, 1, 1, 1, -1);
        due.leaves("prereqKind(0, 1)", x, s -> s.prereqKind(0, 1), 1);
        due.leaves("prereqKind(0, 2)", x, s -> s.prereqKind(0, 2), 2);
        due.leaves("prereqKind(2, 0)", x, s -> s.prereqKind(2, 0), 0);
        due.leaves("prereqKind(1, 1)", x, s -> s.prereqKind(1, 1), 0);
    }

    private static void wrongTargets() {
        JobServer x = new JobServer(6, 3, 1);
        x.addPrereq(0, 1, false);
        int[] wrong = {Integer.MIN_VALUE, -33, -1, 6, 7, 31, 32, 33, Integer.MAX_VALUE};
        for (int w : wrong) {
            due.leaves("prereqKind(" + w + ", 1)", x, s -> s.prereqKind(w, 1), -1);
            due.leaves("prereqKind(0, " + w + ")", x, s -> s.prereqKind(0, w), -1);
            due.leaves("prereqKind of " + w + " twice", x, s -> s.prereqKind(w, w), -1);
        }
    }
}
