/** Promise 6: putting a target into the sub-build. */
public final class Promise06SetSubTest {
    private static final Due due = new Due();

    public static void main(String[] args) {
        allOthersMayBeSubs();
        aSubmakeTargetIsNeeded();
        wrongTargetsAreRefused();
        onlyTopTargetsBecomeSubs();
        targetsWithEdgesAreRefused();
        allElseIsKept();
        refusedOnceStarted();
        due.end();
    }

    private static void allOthersMayBeSubs() {
        JobServer x = new JobServer(32, 1, 0);
        x.setSubmake(31);
        for (int t = 0; t < 31; t++) {
            due.is("level(" + t + ") before", x.level(t), JobServer.LEVEL_TOP);
            due.is("setSub(" + t + ")", x.setSub(t), true);
            due.is("level(" + t + ")", x.level(t), JobServer.LEVEL_SUB);
        }
        due.is("level(31)", x.level(31), JobServer.LEVEL_SUBMAKE);
    }

    private static void aSubmakeTargetIsNeeded() {
        JobServer x = new JobServer(3, 1, 0);
        due.refuses("setSub(1) without a sub-make target", x, s -> s.setSub(1));
        x.setSubmake(0);
        due.is("setSub(1) with one", x.setSub(1), true);
    }

    private static void wrongTargetsAreRefused() {
        JobServer x = new JobServer(5, 1, 0);
        x.setSubmake(0);
        int[] wrong = {Integer.MIN_VALUE, -1, 5, 31, 32, Integer.MAX_VALUE};
        for (int w : wrong) {
            due.refuses("setSub(" + w + ")", x, s -> s.setSub(w));
        }
    }

    private static void onlyTopTargetsBecomeSubs() {
        JobServer x = new JobServer(3, 1, 0);
        x.setSubmake(0);
        x.setSub(1);
        due.refuses("the sub-make target", x, s -> s.setSub(0));
        due.refuses("a sub target again", x, s -> s.setSub(1));
    }

    private static void targetsWithEdgesAreRefused() {
        JobServer x = new JobServer(6, 1, 0);
        x.setSubmake(5);
        x.addPrereq(0, 1, false);
        x.addPrereq(2, 3, true);
        due.refuses("has a NORMAL prerequisite", x, s -> s.setSub(0));
        due.refuses("is a NORMAL prerequisite", x, s -> s.setSub(1));
        due.refuses("has an ORDER_ONLY prerequisite", x, s -> s.setSub(2));
        due.refuses("is an ORDER_ONLY prerequisite", x, s -> s.setSub(3));
        due.is("setSub(4), without edges", x.setSub(4), true);

        JobServer last = new JobServer(32, 1, 0);
        last.setSubmake(1);
        last.addPrereq(31, 0, true);
        due.refuses("prerequisite of the last target", last, s -> s.setSub(0));
        due.refuses("the last target with a prerequisite", last, s -> s.setSub(31));
    }

    private static void allElseIsKept() {
        JobServer x = new JobServer(4, 3, 0);
        x.setSubmake(0);
        x.setTime(2, 8);
        x.setCommand(2, 3, true);
        String before = Due.everything(x);
        due.is("setSub(2)", x.setSub(2), true);
        JobServer same = new JobServer(4, 3, 0);
        same.setSubmake(0);
        same.setSub(2);
        same.setTime(2, 8);
        same.setCommand(2, 3, true);
        due.same("all getters, however it came about", Due.everything(x), Due.everything(same));
        due.is("something changed", Due.everything(x).equals(before), false);
        due.is("timeOf(2)", x.timeOf(2), 8);
        due.is("commandOf(2)", x.commandOf(2), 19);
    }

    private static void refusedOnceStarted() {
        JobServer x = new JobServer(3, 1, 0);
        x.setSubmake(0);
        x.start();
        due.refuses("setSub after start()", x, s -> s.setSub(2));
        due.ticks(x, 1, 1, 1, -1);
        due.refuses("setSub when quiet", x, s -> s.setSub(2));
    }
}
