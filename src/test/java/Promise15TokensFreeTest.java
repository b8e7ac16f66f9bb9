/** Promise 15: free tokens, and the conditions under which a target may start. */
public final class Promise15TokensFreeTest {
    private static final Due due = new Due();

    public static void main(String[] args) {
        beforeStart();
        theFirstTopJobIsFree();
        theFirstSubJobIsFree();
        bothLevelsShareTheTokens();
        lowerIndexesGoFirstInEachPass();
        oneTokenLimitRunsOneOfEachLevel();
        givenBackWhenAJobEnds();
        due.end();
    }

    private static void beforeStart() {
        for (int limit = 1; limit <= 8; limit++) {
            JobServer x = new JobServer(3, limit, 0);
            due.leaves("tokensFree()", x, s -> s.tokensFree(), limit - 1);
        }
    }

    private static void theFirstTopJobIsFree() {
        for (int jobs = 1; jobs <= 8; jobs++) {
            JobServer x = new JobServer(jobs, 4, 0);
            x.start();
            int want = jobs >= 4 ? 0 : 4 - jobs;
            due.leaves("tokensFree() with " + jobs + " jobs", x, s -> s.tokensFree(), want);
        }
    }

    private static void theFirstSubJobIsFree() {
        for (int jobs = 0; jobs <= 8; jobs++) {
            JobServer x = new JobServer(jobs + 1, 4, 0);
            x.setSubmake(jobs);
            for (int t = 0; t < jobs; t++) {
                x.setSub(t);
            }
            x.start();
            int want = jobs >= 4 ? 0 : jobs <= 1 ? 3 : 4 - jobs;
            due.leaves("tokensFree() with " + jobs + " subs", x, s -> s.tokensFree(), want);
            // Target number jobs is the running sub-make target.
            due.is("status(3)", x.status(3), jobs >= 3 ? 1 : -1);
            due.is("status(4)", x.status(4), jobs > 4 ? 0 : jobs == 4 ? 1 : -1);
        }
    }

    private static void bothLevelsShareTheTokens() {
        JobServer x = new JobServer(8, 4, 0);
        x.setSubmake(0);
        x.setSub(2);
        x.setSub(4);
        x.setSub(6);
        x.setCommand(1, 2, false);
        x.start();
        due.statuses("at the start", x, 1, 1, 1, 1, 1, 0, 0, 0);
        due.is("tokensFree()", x.tokensFree(), 0);
        due.ticks(x, 3);
        due.statuses("after a tick", x, 1, 1, 2, 2, 2, 1, 1, 1);
        due.is("tokensFree()", x.tokensFree(), 0);
        due.ticks(x, 5, -1);
        due.is("tokensFree()", x.tokensFree(), 3);
    }

    /** The subs before the sub-make target are met only in the second pass, when no token is left. */
    private static void lowerIndexesGoFirstInEachPass() {
        JobServer x = new JobServer(6, 3, 0);
        x.setSubmake(2);
        x.setSub(0);
        x.setSub(1);
        x.setSub(5);
        x.start();
        due.statuses("at the start", x, 0, 0, 1, 1, 1, 1);
        due.is("tokensFree()", x.tokensFree(), 0);
        due.ticks(x, 3);
        due.statuses("after a tick", x, 1, 1, 1, 2, 2, 2);
        due.is("tokensFree()", x.tokensFree(), 1);
        due.ticks(x, 3, -1);
        due.startedAt(x, 1, 1, 0, 0, 0, 0);
        due.finishedAt(x, 2, 2, 2, 1, 1, 1);
    }

    private static void oneTokenLimitRunsOneOfEachLevel() {
        JobServer x = new JobServer(4, 1, 0);
        x.setSubmake(1);
        x.setSub(2);
        x.setSub(3);
        x.setTime(0, 1);
        x.start();
        due.statuses("at the start", x, 3, 1, 1, 0);
        due.is("tokensFree()", x.tokensFree(), 0);
        due.ticks(x, 1);
        due.statuses("after a tick", x, 3, 1, 2, 1);
        due.ticks(x, 2, -1);
        due.is("tokensFree()", x.tokensFree(), 0);
    }

    private static void givenBackWhenAJobEnds() {
        JobServer x = new JobServer(4, 4, 1);
        x.setCommand(0, 4, false);
        x.setCommand(1, 3, true);
        x.setCommand(2, 2, false);
        x.start();
        int[] want = {0, 1, 2, 3, 3};
        for (int tick = 0; tick < want.length; tick++) {
            due.leaves("tokensFree() at " + tick, x, s -> s.tokensFree(), want[tick]);
            x.tick();
        }
    }
}
