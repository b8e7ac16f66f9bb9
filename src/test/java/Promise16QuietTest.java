/** Promise 16: quiet. */
public final class Promise16QuietTest {
    private static final Due due = new Due();

    public static void main(String[] args) {
        notBeforeStart();
        notWhileATargetRuns();
        notWhileATargetWaits();
        notWhileOnlyTheSubmakeTargetRuns();
        everyDoneStatusIsQuiet();
        itStaysQuiet();
        theCallChangesNothing();
        due.end();
    }

    private static void notBeforeStart() {
        due.sentence("Before start() it answers false.");
        for (int n : new int[] {1, 32}) {
            JobServer x = new JobServer(n, 1, 0);
            for (int t = 0; t < n; t++) {
                x.setTime(t, 1);
            }
            due.leaves("isQuiet() before start()", x, s -> s.isQuiet(), false);
            x.tick();
            due.leaves("isQuiet() after a refused tick()", x, s -> s.isQuiet(), false);
            x.start();
            due.leaves("isQuiet() after start()", x, s -> s.isQuiet(), true);
        }
    }

    private static void notWhileATargetRuns() {
        due.sentence("answers true iff the build has started and no target is WAITING or "
                + "RUNNING;", "RUNNING");
        for (int runs = 0; runs < 32; runs++) {
            JobServer x = new JobServer(32, 1, 0);
            for (int t = 0; t < 32; t++) {
                x.setTime(t, t == runs ? 0 : 1);
            }
            x.setCommand(runs, 2, runs % 2 == 0);
            x.start();
            due.is("isQuiet(), " + runs + " runs", x.isQuiet(), false);
            due.ticks(x, 0);
            due.is("isQuiet(), " + runs + " still runs", x.isQuiet(), false);
            due.ticks(x, 1);
            due.is("isQuiet(), " + runs + " is done", x.isQuiet(), true);
        }
    }

    private static void notWhileATargetWaits() {
        due.sentence("answers true iff the build has started and no target is WAITING or "
                + "RUNNING;", "WAITING");
        JobServer x = new JobServer(32, 1, 0);
        x.start();
        for (int tick = 0; tick < 32; tick++) {
            due.is("isQuiet() after " + tick + " ticks", x.isQuiet(), false);
            x.tick();
        }
        due.is("isQuiet() after 32 ticks", x.isQuiet(), true);
    }

    private static void notWhileOnlyTheSubmakeTargetRuns() {
        due.sentence("no target is WAITING or RUNNING", "the sub-make target alone");
        JobServer x = new JobServer(2, 1, 0);
        x.setSubmake(0);
        x.setSub(1);
        x.setTime(1, 1);
        x.start();
        due.statuses("at the start", x, 1, 3);
        due.leaves("isQuiet()", x, s -> s.isQuiet(), false);
        due.ticks(x, 1);
        due.leaves("isQuiet() after a tick", x, s -> s.isQuiet(), true);
    }

    private static void everyDoneStatusIsQuiet() {
        due.sentence("that is, every target has a done status.");
        JobServer x = new JobServer(4, 4, 1);
        x.setTime(1, 1);
        x.setCommand(2, 1, true);
        x.addPrereq(3, 2, false);
        x.start();
        due.leaves("isQuiet() at the start", x, s -> s.isQuiet(), false);
        due.ticks(x, 2);
        due.statuses("after a tick", x, 2, 3, 4, 5);
        due.leaves("isQuiet() after a tick", x, s -> s.isQuiet(), true);
    }

    private static void itStaysQuiet() {
        due.sentence("Once true it stays true, since tick() is then refused.");
        JobServer x = new JobServer(3, 2, 0);
        x.setCommand(0, 1, true);
        x.start();
        due.ticks(x, 2);
        for (int call = 0; call < 20; call++) {
            due.leaves("tick()", x, s -> s.tick(), -1);
            due.refuses("start()", x, s -> s.start());
            due.refuses("setTime(0, 5)", x, s -> s.setTime(0, 5));
            due.refuses("setCommand(0, 5)", x, s -> s.setCommand(0, 5, false));
            due.refuses("addPrereq(0, 1)", x, s -> s.addPrereq(0, 1, false));
            due.refuses("setSubmake(0)", x, s -> s.setSubmake(0));
            due.refuses("setSub(0)", x, s -> s.setSub(0));
            due.leaves("isQuiet()", x, s -> s.isQuiet(), true);
        }
    }

    private static void theCallChangesNothing() {
        due.sentence("Changes nothing.");
        JobServer x = new JobServer(5, 2, 0);
        JobServer twin = new JobServer(5, 2, 0);
        for (int call = 0; call < 50; call++) {
            x.isQuiet();
        }
        x.start();
        twin.start();
        for (int call = 0; call < 50; call++) {
            x.isQuiet();
        }
        due.sameCourse("looked at and not", x, twin);
        due.leavesCourse("isQuiet", s -> s.isQuiet());
        lookedAtWhileItRuns(false, 2, 2, 2);
        lookedAtWhileItRuns(true, 4, 2, 5);
    }

    /** The class itself may use the call in tick(), so a twin alone does not tell enough. */
    private static void lookedAtWhileItRuns(boolean fails, int... statuses) {
        JobServer x = new JobServer(3, 2, 0);
        x.setCommand(0, 1, fails);
        x.setCommand(1, 3, false);
        x.setCommand(2, 2, false);
        x.start();
        for (int tick = 0; tick < 3; tick++) {
            x.isQuiet();
            x.tick();
        }
        due.statuses("at the end", x, statuses);
        due.finishedAt(x, 1, 3, 3);
    }
}
