/**
 * Simulates a parallel build of targets with prerequisites under a limit of job tokens that the
 * top build and one nested sub-build share. The rules are those of DOC.md; "rule" and "step" in
 * the comments mean the ones listed there under SETTLE.
 */
public final class JobServer {
    public static final int STATUS_WAITING = 0;
    public static final int STATUS_RUNNING = 1;
    public static final int STATUS_REMADE = 2;
    public static final int STATUS_UPTODATE = 3;
    public static final int STATUS_FAILED = 4;
    public static final int STATUS_SKIPPED = 5;

    public static final int KIND_NONE = 0;
    public static final int KIND_NORMAL = 1;
    public static final int KIND_ORDER_ONLY = 2;

    public static final int LEVEL_TOP = 0;
    public static final int LEVEL_SUB = 1;
    public static final int LEVEL_SUBMAKE = 2;

    public static final int MAX_TIME = 1000000;
    public static final int STAMP_BASE = 1000000;
    public static final int MAX_DURATION = 15;

    private static final int MAX_TARGETS = 32;
    private static final int MAX_TOKENS = 8;
    private static final int REFUSED = -1;
    private static final int UNSET = -1;
    private static final int FAILS_MARK = 16;

    private final int targetCount;
    private final int tokenLimit;
    private final boolean keepsGoing;

    private final int[] levels = new int[MAX_TARGETS];
    private final int[] stamps = new int[MAX_TARGETS];
    private final int[] durations = new int[MAX_TARGETS];
    private final boolean[] commandFails = new boolean[MAX_TARGETS];

    // Bit p of entry t tells that p is a prerequisite of t; 32 targets fit the bits of an int.
    private final int[] normalPrereqs = new int[MAX_TARGETS];
    private final int[] orderOnlyPrereqs = new int[MAX_TARGETS];

    private final int[] statuses = new int[MAX_TARGETS];
    private final int[] startClocks = new int[MAX_TARGETS];
    private final int[] finishClocks = new int[MAX_TARGETS];
    private final int[] remainingTicks = new int[MAX_TARGETS];

    private int submake = UNSET;
    private int clock = 0;
    private boolean started = false;
    private boolean failureSeen = false;
    private int runningTop = 0;
    private int runningSub = 0;

    public JobServer(int targets, int tokens, int keepGoing) {
        targetCount = clamp(targets, 1, MAX_TARGETS);
        tokenLimit = clamp(tokens, 1, MAX_TOKENS);
        keepsGoing = keepGoing > 0;
        for (int t = 0; t < MAX_TARGETS; t++) {
            levels[t] = LEVEL_TOP;
            durations[t] = 1;
            statuses[t] = STATUS_WAITING;
            startClocks[t] = UNSET;
            finishClocks[t] = UNSET;
        }
    }

    public boolean addPrereq(int t, int p, boolean orderOnly) {
        if (!isOpenForSetup(t) || !isTarget(p) || t == p) {
            return false;
        }
        if (isSub(t) != isSub(p) || isPrereq(t, p) || isReachable(p, t)) {
            return false;
        }
        if (orderOnly) {
            orderOnlyPrereqs[t] |= 1 << p;
        } else {
            normalPrereqs[t] |= 1 << p;
        }
        return true;
    }

    public boolean setTime(int t, int time) {
        if (!isOpenForSetup(t) || time < 0 || time > MAX_TIME) {
            return false;
        }
        stamps[t] = time;
        return true;
    }

    public boolean setCommand(int t, int duration, boolean fails) {
        if (!isOpenForSetup(t) || duration < 1 || duration > MAX_DURATION) {
            return false;
        }
        durations[t] = duration;
        commandFails[t] = fails;
        return true;
    }

    public boolean setSubmake(int s) {
        if (!isOpenForSetup(s) || submake != UNSET) {
            return false;
        }
        // Sub targets need a sub-make target first, so s can only be LEVEL_TOP here.
        submake = s;
        levels[s] = LEVEL_SUBMAKE;
        return true;
    }

    public boolean setSub(int t) {
        if (!isOpenForSetup(t) || submake == UNSET || levels[t] != LEVEL_TOP) {
            return false;
        }
        if (prereqsOf(t) != 0 || isPrereqOfAny(t)) {
            return false;
        }
        levels[t] = LEVEL_SUB;
        return true;
    }

    public boolean start() {
        if (started) {
            return false;
        }
        started = true;
        settle();
        return true;
    }

    public int tick() {
        if (!started || isQuiet()) {
            return REFUSED;
        }
        clock++;
        int finished = advanceCommands();
        // The sub-build is looked at after all commands, so that it ends in the same tick as the
        // last of its targets.
        if (isSubBuildOver()) {
            boolean fails = hasBadSub();
            endRun(submake, fails);
            finished++;
        }
        settle();
        return finished;
    }

    public int status(int t) {
        return isTarget(t) ? statuses[t] : REFUSED;
    }

    public int timeOf(int t) {
        return isTarget(t) ? stamps[t] : REFUSED;
    }

    public int commandOf(int t) {
        if (!isTarget(t)) {
            return REFUSED;
        }
        return commandFails[t] ? durations[t] + FAILS_MARK : durations[t];
    }

    public int startedAt(int t) {
        return isTarget(t) ? startClocks[t] : REFUSED;
    }

    public int finishedAt(int t) {
        return isTarget(t) ? finishClocks[t] : REFUSED;
    }

    public int prereqKind(int t, int p) {
        if (!isTarget(t) || !isTarget(p)) {
            return REFUSED;
        }
        if (hasBit(normalPrereqs[t], p)) {
            return KIND_NORMAL;
        }
        return hasBit(orderOnlyPrereqs[t], p) ? KIND_ORDER_ONLY : KIND_NONE;
    }

    public int level(int t) {
        return isTarget(t) ? levels[t] : REFUSED;
    }

    public int tokensFree() {
        // The first job of each level is free, so it takes no token.
        int takenByTop = runningTop > 1 ? runningTop - 1 : 0;
        int takenBySub = runningSub > 1 ? runningSub - 1 : 0;
        return tokenLimit - 1 - takenByTop - takenBySub;
    }

    public boolean isQuiet() {
        if (!started) {
            return false;
        }
        for (int t = 0; t < targetCount; t++) {
            if (!isDone(t)) {
                return false;
            }
        }
        return true;
    }

    private static int clamp(int value, int low, int high) {
        if (value < low) {
            return low;
        }
        return value > high ? high : value;
    }

    private static boolean hasBit(int mask, int index) {
        return (mask >>> index & 1) != 0;
    }

    private boolean isTarget(int t) {
        return t >= 0 && t < targetCount;
    }

    private boolean isOpenForSetup(int t) {
        return !started && isTarget(t);
    }

    private boolean isSub(int t) {
        return levels[t] == LEVEL_SUB;
    }

    private boolean isDone(int t) {
        return statuses[t] != STATUS_WAITING && statuses[t] != STATUS_RUNNING;
    }

    private boolean isBad(int t) {
        return statuses[t] == STATUS_FAILED || statuses[t] == STATUS_SKIPPED;
    }

    private boolean isSubmakeIn(int wantedStatus) {
        return submake != UNSET && statuses[submake] == wantedStatus;
    }

    private int prereqsOf(int t) {
        return normalPrereqs[t] | orderOnlyPrereqs[t];
    }

    private boolean isPrereq(int t, int p) {
        int prereqs = prereqsOf(t);
        return hasBit(prereqs, p);
    }

    private boolean isPrereqOfAny(int p) {
        for (int t = 0; t < targetCount; t++) {
            if (isPrereq(t, p)) {
                return true;
            }
        }
        return false;
    }

    private boolean isReachable(int from, int to) {
        int reached = 1 << from;
        // A shortest path has fewer edges than there are targets, and each round follows at
        // least one edge more of every path.
        for (int round = 0; round < targetCount; round++) {
            for (int t = 0; t < targetCount; t++) {
                if (hasBit(reached, t)) {
                    reached |= prereqsOf(t);
                }
            }
        }
        return hasBit(reached, to);
    }

    private int advanceCommands() {
        int finished = 0;
        for (int t = 0; t < targetCount; t++) {
            if (t == submake || statuses[t] != STATUS_RUNNING) {
                continue;
            }
            remainingTicks[t]--;
            if (remainingTicks[t] == 0) {
                endRun(t, commandFails[t]);
                finished++;
            }
        }
        return finished;
    }

    private boolean isSubBuildOver() {
        if (!isSubmakeIn(STATUS_RUNNING)) {
            return false;
        }
        for (int t = 0; t < targetCount; t++) {
            if (isSub(t) && !isDone(t)) {
                return false;
            }
        }
        return true;
    }

    private boolean hasBadSub() {
        for (int t = 0; t < targetCount; t++) {
            if (isSub(t) && isBad(t)) {
                return true;
            }
        }
        return false;
    }

    private void beginRun(int t) {
        statuses[t] = STATUS_RUNNING;
        startClocks[t] = clock;
        remainingTicks[t] = durations[t];
        if (isSub(t)) {
            runningSub++;
        } else {
            runningTop++;
        }
    }

    private void endRun(int t, boolean fails) {
        if (isSub(t)) {
            runningSub--;
        } else {
            runningTop--;
        }
        if (fails) {
            failureSeen = true;
            finish(t, STATUS_FAILED);
        } else {
            stamps[t] = STAMP_BASE + clock;
            finish(t, STATUS_REMADE);
        }
    }

    private void finish(int t, int doneStatus) {
        statuses[t] = doneStatus;
        finishClocks[t] = clock;
    }

    private void settle() {
        boolean changed = true;
        // Every pass but the last takes at least one target out of WAITING, for good.
        for (int pass = 0; changed && pass <= targetCount; pass++) {
            changed = false;
            for (int t = 0; t < targetCount; t++) {
                if (statuses[t] == STATUS_WAITING) {
                    settleTarget(t);
                    changed |= statuses[t] != STATUS_WAITING;
                }
            }
        }
        if (isStopping()) {
            skipWhatCannotRun();
        }
    }

    // The order of the tests is the order of the rules: the first that applies is used.
    private void settleTarget(int t) {
        if (isSub(t) && isSubmakeIn(STATUS_SKIPPED)) {
            finish(t, STATUS_SKIPPED);
            return;
        }
        if (isSub(t) && !isSubmakeIn(STATUS_RUNNING)) {
            return;
        }
        if (hasBadPrereq(t)) {
            finish(t, STATUS_SKIPPED);
            return;
        }
        if (hasUndonePrereq(t) || isStopping()) {
            return;
        }
        if (!isStale(t)) {
            finish(t, STATUS_UPTODATE);
        } else if (mayStart(t)) {
            beginRun(t);
        }
    }

    private boolean isStopping() {
        return !keepsGoing && failureSeen;
    }

    private boolean hasBadPrereq(int t) {
        int prereqs = prereqsOf(t);
        for (int p = 0; p < targetCount; p++) {
            if (hasBit(prereqs, p) && isBad(p)) {
                return true;
            }
        }
        return false;
    }

    private boolean hasUndonePrereq(int t) {
        int prereqs = prereqsOf(t);
        for (int p = 0; p < targetCount; p++) {
            if (hasBit(prereqs, p) && !isDone(p)) {
                return true;
            }
        }
        return false;
    }

    private boolean isStale(int t) {
        if (t == submake || stamps[t] == 0) {
            return true;
        }
        for (int p = 0; p < targetCount; p++) {
            if (hasBit(normalPrereqs[t], p) && stamps[p] > stamps[t]) {
                return true;
            }
        }
        return false;
    }

    // A sub target gets here only while the sub-make target runs (rule 2), so that part of the
    // condition needs no second look.
    private boolean mayStart(int t) {
        int runningBeside = isSub(t) ? runningSub : runningTop;
        return runningBeside == 0 || tokensFree() > 0;
    }

    private void skipWhatCannotRun() {
        if (isSubmakeIn(STATUS_RUNNING) && runningSub == 0) {
            skipWaiting(true);
        }
        if (runningTop == 0 && runningSub == 0) {
            skipWaiting(false);
        }
    }

    private void skipWaiting(boolean subsOnly) {
        for (int t = 0; t < targetCount; t++) {
            if (statuses[t] == STATUS_WAITING && (isSub(t) || !subsOnly)) {
                finish(t, STATUS_SKIPPED);
            }
        }
    }
}
