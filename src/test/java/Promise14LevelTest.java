/** Promise 14: level. */
public final class Promise14LevelTest {
    private static final Due due = new Due();

    public static void main(String[] args) {
        everyLevel();
        wrongTargets();
        due.end();
    }

    private static void everyLevel() {
        JobServer x = new JobServer(3, 1, 0);
        due.leaves("level(1) at first", x, s -> s.level(1), JobServer.LEVEL_TOP);
        x.setSubmake(1);
        x.setSub(2);
        levelsAreTold(x);
        x.start();
        levelsAreTold(x);
        due.ticks(x, 1, 2, -1);
        levelsAreTold(x);
    }

    private static void levelsAreTold(JobServer x) {
        due.leaves("level(0)", x, s -> s.level(0), JobServer.LEVEL_TOP);
        due.leaves("level(1)", x, s -> s.level(1), JobServer.LEVEL_SUBMAKE);
        due.leaves("level(2)", x, s -> s.level(2), JobServer.LEVEL_SUB);
    }

    private static void wrongTargets() {
        JobServer x = new JobServer(6, 3, 1);
        int[] wrong = {Integer.MIN_VALUE, -33, -1, 6, 7, 31, 32, Integer.MAX_VALUE};
        for (int w : wrong) {
            due.leaves("level(" + w + ")", x, s -> s.level(w), -1);
        }
    }
}
