/** Promise 14: level. */
public final class Promise14LevelTest {
    private static final Due due = new Due();

    public static void main(String[] args) {
        everyLevel();
        wrongTargets();
        theCallChangesNothing();
        due.end();
    }

    private static JobServer withEveryLevel() {
        JobServer x = new JobServer(32, 2, 0);
        x.setSubmake(1);
        x.setSub(2);
        x.setSub(31);
        return x;
    }

    private static void everyLevel() {
        due.sentence("answers the level of t as a LEVEL_ constant");
        due.is("level(1) at first", new JobServer(32, 2, 0).level(1), JobServer.LEVEL_TOP);
        JobServer x = withEveryLevel();
        levelsAreTold(x);
        x.start();
        levelsAreTold(x);
        Due.toTheEnd(x);
        levelsAreTold(x);
    }

    private static void levelsAreTold(JobServer x) {
        for (int t = 0; t < 32; t++) {
            boolean sub = t == 2 || t == 31;
            int want = t == 1 ? JobServer.LEVEL_SUBMAKE
                    : sub ? JobServer.LEVEL_SUB : JobServer.LEVEL_TOP;
            due.is("level(" + t + ")", x.level(t), want);
        }
    }

    private static void wrongTargets() {
        due.sentence("or -1 if t is not in 0..n-1.");
        for (int n : new int[] {1, 6, 31, 32}) {
            JobServer x = new JobServer(n, 3, 1);
            for (int w : Due.outside(n)) {
                due.leaves("level(" + w + ")", x, s -> s.level(w), -1);
            }
            x.setSubmake(n - 1);
            x.start();
            for (int w : Due.outside(n)) {
                due.leaves("level(" + w + "), started", x, s -> s.level(w), -1);
            }
        }
    }

    private static void theCallChangesNothing() {
        due.sentence("Changes nothing.");
        JobServer x = withEveryLevel();
        for (int t = -40; t < 80; t++) {
            x.level(t);
        }
        due.sameCourse("looked at and not", x, withEveryLevel());
        due.leavesCourse("level", s -> s.level(6));
        due.leavesCourse("level of no target", s -> s.level(12));
    }
}
