/** Promise 3: setting a timestamp. */
public final class Promise03SetTimeTest {
    private static final Due due = new Due();
    private static final int MAX = JobServer.MAX_TIME;
    private static final int[] WRONG_TIMES = {Integer.MIN_VALUE, Integer.MIN_VALUE + 1, -MAX, -2,
        -1, MAX + 1, MAX + 2, 2 * MAX, Integer.MAX_VALUE - 1, Integer.MAX_VALUE};

    public static void main(String[] args) {
        refusedOnceStarted();
        wrongTargetsAreRefused();
        wrongTimesAreRefused();
        timesInRangeAreTaken();
        bothEndsAreAccepted();
        theLastAcceptedTimeCounts();
        everyLevelTakesATime();
        severalReasonsToRefuse();
        refusedCallsChangeNothing();
        onlyTheTimeChanges();
        due.end();
    }

    private static void refusedOnceStarted() {
        due.sentence("the build has started;");
        JobServer x = new JobServer(3, 1, 0);
        x.setTime(0, 6);
        x.start();
        due.refuses("setTime on an UPTODATE one", x, s -> s.setTime(0, 7));
        due.refuses("setTime on a RUNNING one", x, s -> s.setTime(1, 7));
        due.refuses("setTime on a WAITING one", x, s -> s.setTime(2, 7));
        due.ticks(x, 1, 1, -1);
        due.refuses("setTime on a REMADE one", x, s -> s.setTime(1, 7));
        due.leavesCourse("setTime(11, 5)", s -> s.setTime(11, 5));
        due.leavesCourse("setTime(8, 0)", s -> s.setTime(8, 0));
    }

    private static void wrongTargetsAreRefused() {
        due.sentence("t is not in 0..n-1;");
        for (int n : new int[] {1, 3, 31, 32}) {
            JobServer x = new JobServer(n, 1, 0);
            for (int w : Due.outside(n)) {
                due.refuses("setTime(" + w + ", 9)", x, s -> s.setTime(w, 9));
            }
            due.is("the first target", x.setTime(0, 9), true);
            due.is("the last target", x.setTime(n - 1, 9), true);
        }
    }

    private static void wrongTimesAreRefused() {
        due.sentence("time < 0 or time > MAX_TIME.");
        JobServer x = new JobServer(3, 1, 0);
        x.setTime(1, 40);
        for (int w : WRONG_TIMES) {
            due.refuses("setTime(1, " + w + ")", x, s -> s.setTime(1, w));
            due.refuses("setTime(2, " + w + ")", x, s -> s.setTime(2, w));
        }
    }

    private static void timesInRangeAreTaken() {
        due.sentence("Otherwise the timestamp becomes time and the call answers true.");
        JobServer x = new JobServer(32, 1, 0);
        int[] times = {1, 2, 255, 256, 32767, 32768, 65535, 65536, MAX / 2, MAX - 1};
        for (int time : times) {
            for (int t = 0; t < 32; t += 31) {
                int target = t;
                due.changes("setTime(" + t + ", " + time + ")", x, s -> s.setTime(target, time),
                        true, "timeOf(" + t + ")=" + time);
            }
        }
    }

    private static void bothEndsAreAccepted() {
        due.sentence("Both 0 (missing) and MAX_TIME are accepted.");
        JobServer x = new JobServer(3, 1, 0);
        due.changes("setTime(2, MAX_TIME)", x, s -> s.setTime(2, MAX), true, "timeOf(2)=1000000");
        due.changes("setTime(2, 0)", x, s -> s.setTime(2, 0), true, "timeOf(2)=0");
        due.leaves("setTime(1, 0) on a missing one", x, s -> s.setTime(1, 0), true);
    }

    private static void theLastAcceptedTimeCounts() {
        due.sentence("It may be called any number of times before start(); the last accepted "
                + "value counts.");
        JobServer x = new JobServer(3, 3, 0);
        for (int time = 0; time <= 2000; time++) {
            due.is("setTime(0)", x.setTime(0, time), true);
            due.is("timeOf(0)", x.timeOf(0), time);
            due.is("setTime(0) refused", x.setTime(0, -1 - time), false);
            due.is("setTime(0) refused", x.setTime(0, MAX + 1 + time), false);
            due.is("timeOf(0) after it", x.timeOf(0), time);
        }
        x.setTime(1, 1999);
        x.setTime(1, 2001);
        x.setTime(2, 9);
        x.setTime(2, 0);
        x.addPrereq(1, 0, false);
        x.start();
        due.statuses("1 was not made older, 2 is missing", x, 3, 3, 1);
    }

    private static void everyLevelTakesATime() {
        due.sentence("It works for targets of every level.");
        JobServer x = new JobServer(3, 1, 0);
        x.setSubmake(1);
        x.setSub(2);
        for (int t = 0; t < 3; t++) {
            int target = t;
            due.changes("setTime(" + t + ")", x, s -> s.setTime(target, 10 + target), true,
                    "timeOf(" + t + ")=" + (10 + t));
        }
        JobServer before = new JobServer(3, 1, 0);
        for (int t = 0; t < 3; t++) {
            before.setTime(t, 10 + t);
        }
        before.setSubmake(1);
        before.setSub(2);
        due.sameCourse("times set before the levels and after", x, before);
    }

    private static void severalReasonsToRefuse() {
        due.sentence("Refused (answers false) if, tested in order");
        JobServer x = new JobServer(3, 1, 0);
        for (int w : Due.outside(3)) {
            due.refuses("both wrong", x, s -> s.setTime(w, -1));
            due.refuses("both wrong", x, s -> s.setTime(w, MAX + 1));
        }
        x.start();
        for (int w : Due.outside(3)) {
            due.refuses("started, no target", x, s -> s.setTime(w, 5));
            due.refuses("started, both wrong", x, s -> s.setTime(w, -1));
        }
        for (int w : WRONG_TIMES) {
            due.refuses("started, no time", x, s -> s.setTime(1, w));
        }
    }

    private static void refusedCallsChangeNothing() {
        due.sentence("A refused call changes nothing");
        JobServer x = withSomeTimes();
        for (int w : Due.outside(4)) {
            x.setTime(w, 3);
        }
        for (int w : WRONG_TIMES) {
            for (int t = 0; t < 4; t++) {
                x.setTime(t, w);
            }
        }
        due.sameCourse("with refused times and without", x, withSomeTimes());
    }

    private static JobServer withSomeTimes() {
        JobServer x = new JobServer(4, 1, 0);
        x.addPrereq(1, 0, false);
        x.addPrereq(3, 2, false);
        x.setTime(0, 4);
        x.setTime(1, 4);
        x.setTime(2, MAX);
        x.setTime(3, MAX - 1);
        return x;
    }

    private static void onlyTheTimeChanges() {
        due.sentence("nothing besides the timestamp of t changes.");
        JobServer x = new JobServer(3, 1, 0);
        x.addPrereq(1, 0, true);
        x.setCommand(1, 4, true);
        due.changes("setTime(1, 300)", x, s -> s.setTime(1, 300), true, "timeOf(1)=300");
        due.leaves("setTime(1, 300) again", x, s -> s.setTime(1, 300), true);
        due.changes("setTime(1, 0)", x, s -> s.setTime(1, 0), true, "timeOf(1)=0");
        JobServer never = new JobServer(3, 1, 0);
        never.addPrereq(1, 0, true);
        never.setCommand(1, 4, true);
        due.sameCourse("with the time set back and never set", x, never);
    }
}
