/** Terms of the document: stale. */
public final class TermsStaleTest {
    private static final int UPTODATE = JobServer.STATUS_UPTODATE;
    private static final int RUNNING = JobServer.STATUS_RUNNING;
    private static final Due due = new Due();

    public static void main(String[] args) {
        theSubmakeTargetIsAlwaysStale();
        missingIsStale();
        olderThanANormalPrerequisiteIsStale();
        asOldAsAllPrerequisitesIsNot();
        onePrerequisiteOfManyIsEnough();
        currentValuesAreCompared();
        orderOnlyNeverMakesStale();
        due.end();
    }

    private static void theSubmakeTargetIsAlwaysStale() {
        due.sentence("t is the sub-make target;");
        JobServer x = new JobServer(3, 1, 0);
        x.setSubmake(1);
        x.addPrereq(1, 0, true);
        x.addPrereq(1, 2, false);
        x.setTime(0, 1);
        x.setTime(1, JobServer.MAX_TIME);
        x.setTime(2, 1);
        x.start();
        due.statuses("at the start", x, 3, 1, 3);
    }

    private static void missingIsStale() {
        due.sentence("timestamp(t) == 0;");
        againstOne(0, 0, false, RUNNING);
        againstOne(0, 5, false, RUNNING);
        againstOne(0, 5, true, RUNNING);
        againstOne(0, JobServer.MAX_TIME, true, RUNNING);
        againstOne(1, 1, true, UPTODATE);
        JobServer alone = new JobServer(2, 2, 0);
        alone.setTime(1, 1);
        alone.start();
        due.statuses("without prerequisites", alone, RUNNING, UPTODATE);
    }

    private static void olderThanANormalPrerequisiteIsStale() {
        due.sentence("some NORMAL prerequisite p has timestamp(p) > timestamp(t)");
        againstOne(1, 2, false, RUNNING);
        againstOne(10, 11, false, RUNNING);
        againstOne(1, JobServer.MAX_TIME, false, RUNNING);
        againstOne(JobServer.MAX_TIME - 1, JobServer.MAX_TIME, false, RUNNING);
    }

    private static void asOldAsAllPrerequisitesIsNot() {
        due.sentence("some NORMAL prerequisite p has timestamp(p) > timestamp(t)", "not equal");
        againstOne(1, 1, false, UPTODATE);
        againstOne(10, 10, false, UPTODATE);
        againstOne(10, 9, false, UPTODATE);
        againstOne(JobServer.MAX_TIME, JobServer.MAX_TIME, false, UPTODATE);
        againstOne(JobServer.MAX_TIME, 1, false, UPTODATE);
    }

    /** A missing prerequisite is remade first, so that time is let pass. */
    private static void againstOne(int time, int prereqTime, boolean orderOnly, int want) {
        JobServer x = new JobServer(2, 1, 0);
        x.addPrereq(0, 1, orderOnly);
        x.setTime(0, time);
        x.setTime(1, prereqTime);
        x.start();
        if (prereqTime == 0) {
            x.tick();
        }
        due.is("time " + time + " against " + prereqTime, x.status(0), want);
    }

    private static void onePrerequisiteOfManyIsEnough() {
        due.sentence("Target t is stale iff any of these holds");
        for (int t = 0; t < 32; t++) {
            for (int newer = -1; newer < 32; newer++) {
                JobServer x = new JobServer(32, 1, 0);
                for (int p = 0; p < 32; p++) {
                    x.setTime(p, p == newer ? 9 : p == t ? 8 : 7);
                    x.addPrereq(t, p, false);
                }
                x.start();
                boolean stale = newer >= 0 && newer != t;
                due.is(newer + " is newer than " + t, x.status(t), stale ? RUNNING : UPTODATE);
            }
        }
    }

    private static void currentValuesAreCompared() {
        due.sentence("comparing the current values.");
        JobServer x = new JobServer(4, 1, 0);
        x.addPrereq(1, 0, false);
        x.addPrereq(2, 1, false);
        x.addPrereq(3, 2, false);
        x.setTime(1, JobServer.MAX_TIME);
        x.setTime(2, JobServer.MAX_TIME);
        x.setTime(3, JobServer.MAX_TIME);
        x.start();
        due.statuses("0 is missing", x, 1, 0, 0, 0);
        due.ticks(x, 1, 1, 1, 1, -1);
        due.statuses("each was remade over the one before", x, 2, 2, 2, 2);
        JobServer submake = new JobServer(2, 1, 0);
        submake.setSubmake(0);
        submake.addPrereq(1, 0, false);
        submake.setTime(0, 1);
        submake.setTime(1, JobServer.MAX_TIME);
        submake.start();
        due.ticks(submake, 1);
        due.statuses("over a remade sub-make target", submake, 2, RUNNING);
    }

    private static void orderOnlyNeverMakesStale() {
        due.sentence("ORDER_ONLY prerequisites never make a target stale.");
        againstOne(10, 11, true, UPTODATE);
        againstOne(1, JobServer.MAX_TIME, true, UPTODATE);
        JobServer x = new JobServer(4, 1, 0);
        x.addPrereq(1, 0, true);
        x.addPrereq(2, 1, false);
        x.addPrereq(3, 0, true);
        x.addPrereq(3, 2, false);
        x.setTime(1, 1);
        x.setTime(2, 1);
        x.setTime(3, 1);
        x.start();
        due.statuses("0 is missing", x, 1, 0, 0, 0);
        due.ticks(x, 1, -1);
        due.statuses("0 was remade", x, 2, 3, 3, 3);
        due.finishedAt(x, 1, 1, 1, 1);
    }
}
