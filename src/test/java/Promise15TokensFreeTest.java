/** Promise 15: free tokens. When a target may start is tested by TermsTokensTest. */
public final class Promise15TokensFreeTest {
    private static final Due due = new Due();

    public static void main(String[] args) {
        beforeStart();
        theFirstTopJobIsFree();
        theFirstSubJobIsFree();
        bothLevelsTakeFromOnePool();
        givenBackWhenAJobEnds();
        neverNegative();
        theCallChangesNothing();
        due.end();
    }

    private static void beforeStart() {
        due.sentence("Before start() this is L-1.");
        for (int limit = 1; limit <= 8; limit++) {
            JobServer x = new JobServer(3, limit, 0);
            due.leaves("tokensFree()", x, s -> s.tokensFree(), limit - 1);
            x.setSubmake(0);
            x.setSub(1);
            due.leaves("tokensFree() with levels", x, s -> s.tokensFree(), limit - 1);
        }
    }

    private static void theFirstTopJobIsFree() {
        due.sentence("max(0, r0-1)");
        for (int limit = 1; limit <= 8; limit++) {
            for (int jobs = 0; jobs <= 10; jobs++) {
                JobServer x = new JobServer(11, limit, 0);
                for (int t = jobs; t < 11; t++) {
                    x.setTime(t, 1);
                }
                x.start();
                int running = Math.min(jobs, limit);
                int want = limit - Math.max(1, running);
                due.is(jobs + " jobs under " + limit + ": tokensFree()", x.tokensFree(), want);
            }
        }
    }

    private static void theFirstSubJobIsFree() {
        due.sentence("max(0, r1-1)");
        for (int limit = 1; limit <= 8; limit++) {
            for (int jobs = 0; jobs <= 10; jobs++) {
                JobServer x = new JobServer(jobs + 1, limit, 0);
                x.setSubmake(jobs);
                for (int t = 0; t < jobs; t++) {
                    x.setSub(t);
                }
                x.start();
                int running = Math.min(jobs, limit);
                int want = limit - Math.max(1, running);
                due.is(jobs + " subs under " + limit + ": tokensFree()", x.tokensFree(), want);
            }
        }
    }

    private static void bothLevelsTakeFromOnePool() {
        due.sentence("tokensFree = (L-1) - max(0, r0-1) - max(0, r1-1)");
        for (int tops = 0; tops <= 3; tops++) {
            for (int subs = 0; subs <= 4; subs++) {
                JobServer x = new JobServer(8, 8, 0);
                x.setSubmake(0);
                for (int t = 1; t < 8; t++) {
                    if (t > tops) {
                        x.setSub(t);
                    }
                    if (t > tops + subs) {
                        x.setTime(t, 1);
                    }
                }
                x.start();
                int want = 7 - tops - Math.max(0, subs - 1);
                due.is(tops + " and " + subs + ": tokensFree()", x.tokensFree(), want);
                Due.toTheEnd(x);
                due.is("tokensFree() at the end", x.tokensFree(), 7);
            }
        }
    }

    private static void givenBackWhenAJobEnds() {
        due.sentence("answers tokensFree as defined under Tokens, using the current counts r0 and "
                + "r1.");
        JobServer x = new JobServer(4, 4, 1);
        x.setCommand(0, 4, false);
        x.setCommand(1, 3, true);
        x.setCommand(2, 2, false);
        x.start();
        int[] want = {0, 1, 2, 3, 3};
        for (int tick = 0; tick < want.length; tick++) {
            due.leaves("tokensFree() at " + tick, x, s -> s.tokensFree(), want[tick]);
            x.tick();
        }
        JobServer nested = new JobServer(4, 4, 1);
        nested.setSubmake(0);
        for (int t = 1; t < 4; t++) {
            nested.setSub(t);
            nested.setCommand(t, 4 - t, t == 2);
        }
        nested.start();
        int[] wantNested = {1, 2, 3, 3};
        for (int tick = 0; tick < wantNested.length; tick++) {
            due.is("tokensFree() at " + tick, nested.tokensFree(), wantNested[tick]);
            nested.tick();
        }
    }

    private static void neverNegative() {
        due.sentence("The answer is never negative.");
        for (int limit = 1; limit <= 8; limit++) {
            for (int submake = 0; submake < 32; submake++) {
                JobServer x = new JobServer(32, limit, 0);
                x.setSubmake(submake);
                for (int t = 0; t < 32; t++) {
                    x.setCommand(t, t % 5 + 1, false);
                    if (t % 3 != submake % 3) {
                        x.setSub(t);
                    }
                }
                x.start();
                boolean negative = x.tokensFree() < 0;
                for (int tick = 0; tick < 200; tick++) {
                    x.tick();
                    negative |= x.tokensFree() < 0;
                }
                due.is("tokensFree() below 0 under " + limit, negative, false);
            }
        }
    }

    private static void theCallChangesNothing() {
        due.sentence("Changes nothing.");
        JobServer x = new JobServer(9, 4, 0);
        JobServer twin = new JobServer(9, 4, 0);
        for (int call = 0; call < 50; call++) {
            x.tokensFree();
        }
        x.start();
        twin.start();
        for (int call = 0; call < 50; call++) {
            x.tokensFree();
        }
        due.sameCourse("looked at and not", x, twin);
        due.leavesCourse("tokensFree", s -> s.tokensFree());
        lookedAtWhileItRuns(false, 2, 2, 2);
        lookedAtWhileItRuns(true, 4, 2, 5);
    }

    /** The class itself may use the call in tick(), so a twin alone does not tell enough. */
    private static void lookedAtWhileItRuns(boolean fails, int... statuses) {
        JobServer x = new JobServer(3, 2, 0);
        x.setCommand(0, 1, fails);
        x.setCommand(1, 3, false);
        x.setCommand(2, 2, false);
        x.start();
        for (int tick = 0; tick < 3; tick++) {
            x.tokensFree();
            x.tick();
        }
        due.statuses("at the end", x, statuses);
        due.finishedAt(x, 1, 3, 3);
    }
}
