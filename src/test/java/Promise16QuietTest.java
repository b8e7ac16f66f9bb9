/** Promise 16: quiet. */
public final class Promise16QuietTest {
    private static final Due due = new Due();

    public static void main(String[] args) {
        notBeforeStart();
        notWhileATargetRuns();
        notWhileOnlyTheSubmakeTargetRuns();
        everyDoneStatusIsQuiet();
        itStaysQuiet();
        due.end();
    }

    private static void notBeforeStart() {
        JobServer x = new JobServer(1, 1, 0);
        x.setTime(0, 1);
        due.leaves("isQuiet() before start()", x, s -> s.isQuiet(), false);
        x.start();
        due.leaves("isQuiet() after it", x, s -> s.isQuiet(), true);
    }

    private static void notWhileATargetRuns() {
        JobServer x = new JobServer(32, 1, 0);
        for (int t = 0; t < 31; t++) {
            x.setTime(t, 1);
        }
        x.setCommand(31, 2, false);
        x.start();
        due.leaves("isQuiet(), 31 runs", x, s -> s.isQuiet(), false);
        due.ticks(x, 0);
        due.leaves("isQuiet(), 31 still runs", x, s -> s.isQuiet(), false);
        due.ticks(x, 1);
        due.leaves("isQuiet(), 31 is remade", x, s -> s.isQuiet(), true);
    }

    private static void notWhileOnlyTheSubmakeTargetRuns() {
        JobServer x = new JobServer(2, 1, 0);
        x.setSubmake(0);
        x.setSub(1);
        x.setTime(1, 1);
        x.start();
        due.statuses("at the start", x, 1, 3);
        due.leaves("isQuiet()", x, s -> s.isQuiet(), false);
        due.ticks(x, 1);
        due.leaves("isQuiet() after a tick", x, s -> s.isQuiet(), true);
    }

    private static void everyDoneStatusIsQuiet() {
        JobServer x = new JobServer(4, 4, 1);
        x.setTime(1, 1);
        x.setCommand(2, 1, true);
        x.addPrereq(3, 2, false);
        x.start();
        due.leaves("isQuiet() at the start", x, s -> s.isQuiet(), false);
        due.ticks(x, 2);
        due.statuses("after a tick", x, 2, 3, 4, 5);
        due.leaves("isQuiet() after a tick", x, s -> s.isQuiet(), true);
    }

    private static void itStaysQuiet() {
        JobServer x = new JobServer(2, 2, 0);
        x.setCommand(0, 1, true);
        x.start();
        due.ticks(x, 2);
        for (int call = 0; call < 20; call++) {
            due.leaves("tick()", x, s -> s.tick(), -1);
            due.refuses("start()", x, s -> s.start());
            due.refuses("setTime(0, 5)", x, s -> s.setTime(0, 5));
            due.leaves("isQuiet()", x, s -> s.isQuiet(), true);
        }
    }
}
