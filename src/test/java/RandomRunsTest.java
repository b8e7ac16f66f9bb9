import java.util.Arrays;

/** Many made-up builds, each told to JobServer and to Model alike: all answers must agree. */
public final class RandomRunsTest {
    private static final int BUILDS = 6000;
    private static final Due due = new Due();

    // A fixed row of numbers, so that every run of this test is the same.
    private static long seed = 20261115L;

    private JobServer x;
    private Model model;
    private int targets;
    private int failsOutOf;
    private String name;

    public static void main(String[] args) {
        due.sentence("every answer and every status, timestamp, startedAt and finishedAt equal "
                + "what the rules above give.");
        // After a wrong answer the two go apart, and all that follows says nothing more.
        for (int build = 0; build < BUILDS && !due.anyWrong(); build++) {
            new RandomRunsTest().run(build);
        }
        due.end();
    }

    private static int below(int bound) {
        seed = seed * 6364136223846793005L + 1442695040888963407L;
        return (int) ((seed >>> 33) % bound);
    }

    private void run(int build) {
        name = "build " + build + ": ";
        targets = below(5) == 0 ? below(36) - 1 : 2 + below(10);
        int tokens = below(4) == 0 ? below(12) - 1 : 1 + below(3);
        int keepGoing = below(4) - 1;
        failsOutOf = 2 + below(12);
        x = new JobServer(targets, tokens, keepGoing);
        model = new Model(targets, tokens, keepGoing);
        setUpLevels();
        int calls = below(5 * Math.max(2, targets));
        for (int call = 0; call < calls; call++) {
            setUpOnce();
        }
        compare();
        due.is(name + "start()", x.start(), model.start());
        compare();
        tickUntilQuiet();
    }

    private void setUpLevels() {
        if (below(4) == 0) {
            return;
        }
        int submake = anyTarget();
        due.is(name + "setSubmake", x.setSubmake(submake), model.setSubmake(submake));
        int subs = below(Math.max(2, targets));
        for (int i = 0; i < subs; i++) {
            int t = anyTarget();
            due.is(name + "setSub", x.setSub(t), model.setSub(t));
        }
    }

    /** Now and then just outside, so that refused calls come in as well. */
    private int anyTarget() {
        return below(30) == 0 ? below(70) - 35 : below(Math.max(1, targets));
    }

    private void setUpOnce() {
        int t = anyTarget();
        int p = anyTarget();
        boolean flag = below(2) == 0;
        int time = below(20) == 0 ? 999998 + below(5) : below(6) - (below(20) == 0 ? 1 : 0);
        int duration = below(10) == 0 ? below(20) - 1 : 1 + below(4);
        boolean fails = below(failsOutOf) == 0;
        switch (below(10)) {
            case 0, 1, 2 -> due.is(name + "setTime", x.setTime(t, time), model.setTime(t, time));
            case 3, 4 -> due.is(name + "setCommand", x.setCommand(t, duration, fails),
                    model.setCommand(t, duration, fails));
            case 5 -> due.is(name + "setSub", x.setSub(t), model.setSub(t));
            case 6 -> {
                if (below(10) == 0) {
                    due.is(name + "setSubmake", x.setSubmake(t), model.setSubmake(t));
                }
            }
            default -> due.is(name + "addPrereq", x.addPrereq(t, p, flag),
                    model.addPrereq(t, p, flag));
        }
    }

    private void tickUntilQuiet() {
        int ticks = 0;
        while (ticks < 500 && !model.isQuiet()) {
            if (below(4) == 0) {
                setUpOnce();
            }
            due.is(name + "tick()", x.tick(), model.tick());
            compare();
            ticks++;
        }
        due.is(name + "isQuiet() in the end", x.isQuiet(), true);
        due.is(name + "tick() in the end", x.tick(), -1);
        compare();
    }

    private void compare() {
        for (int t = -1; t <= Math.max(1, targets); t++) {
            int[] seen = {x.status(t), x.timeOf(t), x.commandOf(t), x.level(t), x.startedAt(t),
                x.finishedAt(t)};
            due.same(name + "target " + t, Arrays.toString(seen), Arrays.toString(model.seen(t)));
            for (int p = -1; p <= Math.max(1, targets); p++) {
                due.is(name + "prereqKind", x.prereqKind(t, p), model.prereqKind(t, p));
            }
        }
        due.is(name + "tokensFree()", x.tokensFree(), model.tokensFree());
        due.is(name + "tokensFree() below 0", x.tokensFree() < 0, false);
        due.is(name + "isQuiet()", x.isQuiet(), model.isQuiet());
    }
}
