/** Terms of the document: tokens, and when a target may start. */
public final class TermsTokensTest {
    private static final Due due = new Due();

    public static void main(String[] args) {
        runningTopTargetsAreCounted();
        runningSubTargetsAreCounted();
        theFirstTopTargetNeedsNoToken();
        furtherTopTargetsNeedAToken();
        theFirstSubTargetNeedsNoToken();
        furtherSubTargetsNeedAToken();
        subTargetsNeedTheSubmakeTarget();
        countsAreThoseOfTheMoment();
        freedTokensAreUsedAtOnce();
        lowerIndexesGoFirstInEachPass();
        noMoreThanTheLimitRun();
        due.end();
    }

    private static void runningTopTargetsAreCounted() {
        due.sentence("r0 is the number of top-level targets that are RUNNING");
        JobServer top = new JobServer(8, 4, 1);
        someOfEachStatus(top);
        top.start();
        top.tick();
        due.statuses("after a tick", top, 1, 4, 5, 3, 2, 1, 0, 1);
        due.is("tokensFree() with 3 running", top.tokensFree(), 1);
    }

    private static void runningSubTargetsAreCounted() {
        due.sentence("r1 is the number of sub targets that are RUNNING.");
        JobServer sub = new JobServer(9, 4, 1);
        sub.setSubmake(8);
        for (int t = 0; t < 8; t++) {
            sub.setSub(t);
        }
        someOfEachStatus(sub);
        sub.start();
        sub.tick();
        due.statuses("after a tick", sub, 1, 4, 5, 3, 2, 1, 0, 1, 1);
        due.is("tokensFree() with 3 running and the sub-make target", sub.tokensFree(), 1);
    }

    /** After a tick the done statuses and WAITING are all there beside RUNNING. */
    private static void someOfEachStatus(JobServer x) {
        x.setCommand(0, 5, false);
        x.setCommand(1, 1, true);
        x.addPrereq(2, 1, false);
        x.setTime(3, 1);
        x.setCommand(5, 5, false);
        x.addPrereq(6, 0, false);
        x.setCommand(7, 5, false);
    }

    private static void theFirstTopTargetNeedsNoToken() {
        due.sentence("A top-level target may start iff r0 == 0");
        JobServer x = new JobServer(3, 1, 0);
        x.start();
        due.statuses("with no token at all", x, 1, 0, 0);
        due.is("tokensFree()", x.tokensFree(), 0);
        due.ticks(x, 1);
        due.statuses("and again", x, 2, 1, 0);
        JobServer submake = new JobServer(2, 1, 0);
        submake.setSubmake(0);
        submake.start();
        due.statuses("the sub-make target", submake, 1, 0);
    }

    private static void furtherTopTargetsNeedAToken() {
        due.sentence("A top-level target may start iff r0 == 0 or tokensFree > 0.");
        for (int limit = 1; limit <= 8; limit++) {
            JobServer x = new JobServer(10, limit, 0);
            x.setSubmake(9);
            x.start();
            for (int t = 0; t < 10; t++) {
                due.is("status(" + t + ") under " + limit, x.status(t), t < limit ? 1 : 0);
            }
            due.is("tokensFree() under " + limit, x.tokensFree(), 0);
        }
        JobServer behindSubs = new JobServer(5, 2, 0);
        behindSubs.setSubmake(0);
        behindSubs.setSub(1);
        behindSubs.setSub(2);
        behindSubs.start();
        due.statuses("the sub-build has the only token", behindSubs, 1, 1, 1, 0, 0);
    }

    private static void theFirstSubTargetNeedsNoToken() {
        due.sentence("A sub target may start iff the sub-make target is RUNNING and (r1 == 0");
        JobServer alone = new JobServer(3, 1, 0);
        alone.setSubmake(0);
        alone.setSub(1);
        alone.setSub(2);
        alone.start();
        due.statuses("with no token at all", alone, 1, 1, 0);
        JobServer behindTops = new JobServer(6, 3, 0);
        behindTops.setSubmake(0);
        behindTops.setSub(4);
        behindTops.setSub(5);
        behindTops.start();
        due.statuses("the top has all tokens", behindTops, 1, 1, 1, 0, 1, 0);
        due.is("tokensFree()", behindTops.tokensFree(), 0);
    }

    private static void furtherSubTargetsNeedAToken() {
        due.sentence("(r1 == 0 or tokensFree > 0).");
        for (int limit = 1; limit <= 8; limit++) {
            JobServer x = new JobServer(11, limit, 0);
            x.setSubmake(0);
            for (int t = 1; t < 11; t++) {
                x.setSub(t);
            }
            x.start();
            for (int t = 1; t < 11; t++) {
                due.is("status(" + t + ") under " + limit, x.status(t), t <= limit ? 1 : 0);
            }
            due.is("tokensFree() under " + limit, x.tokensFree(), 0);
        }
    }

    private static void subTargetsNeedTheSubmakeTarget() {
        due.sentence("A sub target may start iff the sub-make target is RUNNING");
        JobServer x = new JobServer(4, 8, 0);
        x.setSubmake(3);
        x.setSub(0);
        x.setSub(1);
        x.addPrereq(3, 2, true);
        x.setCommand(2, 3, false);
        x.start();
        for (int clock = 0; clock < 3; clock++) {
            due.statuses("the sub-make target waits", x, 0, 0, 1, 0);
            x.tick();
        }
        due.statuses("the sub-make target runs", x, 1, 1, 2, 1);
    }

    private static void countsAreThoseOfTheMoment() {
        due.sentence("Both conditions use the counts at the moment of the attempt, so targets "
                + "started earlier in the same pass count.");
        JobServer x = new JobServer(8, 4, 0);
        x.setSubmake(0);
        x.setSub(2);
        x.setSub(4);
        x.setSub(6);
        x.setCommand(1, 2, false);
        x.start();
        due.statuses("at the start", x, 1, 1, 1, 1, 1, 0, 0, 0);
        due.is("tokensFree()", x.tokensFree(), 0);
        due.ticks(x, 3);
        due.statuses("after a tick", x, 1, 1, 2, 2, 2, 1, 1, 1);
        due.is("tokensFree()", x.tokensFree(), 0);
        due.ticks(x, 5, -1);
        due.is("tokensFree()", x.tokensFree(), 3);
    }

    private static void freedTokensAreUsedAtOnce() {
        due.sentence("Both conditions use the counts at the moment of the attempt",
                "after the ends");
        JobServer x = new JobServer(5, 2, 1);
        x.setCommand(0, 1, true);
        x.setCommand(1, 2, false);
        x.start();
        due.statuses("at the start", x, 1, 1, 0, 0, 0);
        due.ticks(x, 1);
        due.statuses("2 takes the place of what failed", x, 4, 1, 1, 0, 0);
        due.ticks(x, 2);
        due.statuses("3 and 4 take both places", x, 4, 2, 2, 1, 1);
        JobServer submake = new JobServer(3, 1, 0);
        submake.setSubmake(0);
        submake.setSub(1);
        submake.start();
        due.ticks(submake, 2);
        due.statuses("2 takes the place of the sub-make target", submake, 2, 2, 1);
    }

    /** The subs before the sub-make target are met only in the second pass, with no token left. */
    private static void lowerIndexesGoFirstInEachPass() {
        due.sentence("in ascending index order (within each pass; see SETTLE)");
        JobServer x = new JobServer(6, 3, 0);
        x.setSubmake(2);
        x.setSub(0);
        x.setSub(1);
        x.setSub(5);
        x.start();
        due.statuses("at the start", x, 0, 0, 1, 1, 1, 1);
        due.is("tokensFree()", x.tokensFree(), 0);
        due.ticks(x, 3);
        due.statuses("after a tick", x, 1, 1, 1, 2, 2, 2);
        due.is("tokensFree()", x.tokensFree(), 1);
        due.ticks(x, 3, -1);
        due.startedAt(x, 1, 1, 0, 0, 0, 0);
        due.finishedAt(x, 2, 2, 2, 1, 1, 1);
    }

    private static void noMoreThanTheLimitRun() {
        due.sentence("As a result, at most L RUNNING targets other than the sub-make target "
                + "exist at any time, and tokensFree never drops below 0.");
        for (int limit = 1; limit <= 8; limit++) {
            for (int submake = -1; submake < 32; submake++) {
                JobServer x = new JobServer(32, limit, submake % 2);
                x.setSubmake(submake);
                for (int t = 0; t < 32; t++) {
                    x.setCommand(t, t * 7 % 5 + 1, t == 29);
                    if (t * 5 % 3 == 0) {
                        x.setSub(t);
                    }
                }
                x.start();
                int most = 0;
                for (int tick = 0; tick < 200; tick++) {
                    most = Math.max(most, runningBeside(x));
                    due.is("tokensFree()", x.tokensFree(), freeByCount(x, limit));
                    due.is("tokensFree() below 0", x.tokensFree() < 0, false);
                    x.tick();
                }
                due.is("the most that ran under " + limit, most, limit);
            }
        }
    }

    private static int runningBeside(JobServer x) {
        int running = 0;
        for (int t = 0; t < 32; t++) {
            boolean counts = x.level(t) != JobServer.LEVEL_SUBMAKE;
            running += counts && x.status(t) == JobServer.STATUS_RUNNING ? 1 : 0;
        }
        return running;
    }

    private static int freeByCount(JobServer x, int limit) {
        int top = 0;
        int sub = 0;
        for (int t = 0; t < 32; t++) {
            int one = x.status(t) == JobServer.STATUS_RUNNING ? 1 : 0;
            sub += x.level(t) == JobServer.LEVEL_SUB ? one : 0;
            top += x.level(t) == JobServer.LEVEL_SUB ? 0 : one;
        }
        return limit - 1 - Math.max(0, top - 1) - Math.max(0, sub - 1);
    }
}
