import java.util.ArrayList;
import java.util.List;

/**
 * The document's rules once more, written down as they stand there and with no thought for
 * LANGUAGE.md: counts are counted anew each time, and ways are searched by recursion.
 */
final class Model {
    private static final class Target {
        int level = JobServer.LEVEL_TOP;
        int time = 0;
        int duration = 1;
        boolean fails = false;
        int status = JobServer.STATUS_WAITING;
        int startedAt = -1;
        int finishedAt = -1;
        final List<Target> normal = new ArrayList<>();
        final List<Target> orderOnly = new ArrayList<>();

        List<Target> prereqs() {
            List<Target> all = new ArrayList<>(normal);
            all.addAll(orderOnly);
            return all;
        }

        boolean sub() {
            return level == JobServer.LEVEL_SUB;
        }

        boolean waiting() {
            return status == JobServer.STATUS_WAITING;
        }

        boolean running() {
            return status == JobServer.STATUS_RUNNING;
        }

        boolean bad() {
            return status == JobServer.STATUS_FAILED || status == JobServer.STATUS_SKIPPED;
        }

        boolean reaches(Target other) {
            return this == other || prereqs().stream().anyMatch(p -> p.reaches(other));
        }
    }

    private final List<Target> targets = new ArrayList<>();
    private final int limit;
    private final boolean keepGoing;
    private Target submake = null;
    private int clock = 0;
    private boolean started = false;
    private boolean failure = false;

    Model(int targetCount, int tokens, int keepGoing) {
        for (int t = 0; t < Math.max(1, Math.min(32, targetCount)); t++) {
            targets.add(new Target());
        }
        limit = Math.max(1, Math.min(8, tokens));
        this.keepGoing = Math.max(0, Math.min(1, keepGoing)) == 1;
    }

    private boolean has(int t) {
        return 0 <= t && t <= targets.size() - 1;
    }

    boolean addPrereq(int t, int p, boolean orderOnly) {
        if (started || !has(t) || !has(p) || t == p) {
            return false;
        }
        Target user = targets.get(t);
        Target used = targets.get(p);
        if (user.sub() != used.sub() || user.prereqs().contains(used) || used.reaches(user)) {
            return false;
        }
        return (orderOnly ? user.orderOnly : user.normal).add(used);
    }

    boolean setTime(int t, int time) {
        if (started || !has(t) || time < 0 || time > 1000000) {
            return false;
        }
        targets.get(t).time = time;
        return true;
    }

    boolean setCommand(int t, int duration, boolean fails) {
        if (started || !has(t) || duration < 1 || duration > 15) {
            return false;
        }
        targets.get(t).duration = duration;
        targets.get(t).fails = fails;
        return true;
    }

    boolean setSubmake(int s) {
        if (started || !has(s) || submake != null) {
            return false;
        }
        submake = targets.get(s);
        submake.level = JobServer.LEVEL_SUBMAKE;
        return true;
    }

    boolean setSub(int t) {
        if (started || !has(t) || submake == null) {
            return false;
        }
        Target target = targets.get(t);
        if (target.level != JobServer.LEVEL_TOP || !target.prereqs().isEmpty()
                || targets.stream().anyMatch(u -> u.prereqs().contains(target))) {
            return false;
        }
        target.level = JobServer.LEVEL_SUB;
        return true;
    }

    boolean start() {
        if (started) {
            return false;
        }
        started = true;
        settle();
        return true;
    }

    int tick() {
        if (!started || isQuiet()) {
            return -1;
        }
        clock++;
        int finished = 0;
        for (Target t : targets) {
            if (t.running() && t != submake && t.startedAt + t.duration == clock) {
                end(t, t.fails);
                finished++;
            }
        }
        if (submake != null && submake.running()
                && targets.stream().noneMatch(t -> t.sub() && (t.waiting() || t.running()))) {
            end(submake, targets.stream().anyMatch(t -> t.sub() && t.bad()));
            finished++;
        }
        settle();
        return finished;
    }

    private void end(Target t, boolean fails) {
        done(t, fails ? JobServer.STATUS_FAILED : JobServer.STATUS_REMADE);
        failure |= fails;
        t.time = fails ? t.time : 1000000 + clock;
    }

    private void done(Target t, int status) {
        t.status = status;
        t.finishedAt = clock;
    }

    private void settle() {
        boolean changed;
        do {
            changed = false;
            for (Target t : targets) {
                int before = t.status;
                if (t.waiting()) {
                    rules(t);
                }
                changed |= before != t.status;
            }
        } while (changed);
        if (keepGoing || !failure) {
            return;
        }
        if (submake != null && submake.running() && running(true) == 0) {
            targets.stream().filter(t -> t.sub() && t.waiting()).forEach(this::skip);
        }
        if (targets.stream().noneMatch(Target::running)) {
            targets.stream().filter(Target::waiting).forEach(this::skip);
        }
    }

    private void skip(Target t) {
        done(t, JobServer.STATUS_SKIPPED);
    }

    private void rules(Target t) {
        if (t.sub() && submake.status == JobServer.STATUS_SKIPPED) {
            skip(t);
            return;
        }
        if (t.sub() && !submake.running()) {
            return;
        }
        if (t.prereqs().stream().anyMatch(Target::bad)) {
            skip(t);
            return;
        }
        if (t.prereqs().stream().anyMatch(p -> p.waiting() || p.running())) {
            return;
        }
        if (!keepGoing && failure) {
            return;
        }
        if (!stale(t)) {
            done(t, JobServer.STATUS_UPTODATE);
            return;
        }
        if (running(t.sub()) == 0 || tokensFree() > 0) {
            t.status = JobServer.STATUS_RUNNING;
            t.startedAt = clock;
        }
    }

    private boolean stale(Target t) {
        return t == submake || t.time == 0 || t.normal.stream().anyMatch(p -> p.time > t.time);
    }

    private int running(boolean sub) {
        return (int) targets.stream().filter(t -> t.running() && t.sub() == sub).count();
    }

    int tokensFree() {
        return limit - 1 - Math.max(0, running(false) - 1) - Math.max(0, running(true) - 1);
    }

    boolean isQuiet() {
        return started && targets.stream().noneMatch(t -> t.waiting() || t.running());
    }

    int prereqKind(int t, int p) {
        if (!has(t) || !has(p)) {
            return -1;
        }
        if (targets.get(t).normal.contains(targets.get(p))) {
            return JobServer.KIND_NORMAL;
        }
        boolean orderOnly = targets.get(t).orderOnly.contains(targets.get(p));
        return orderOnly ? JobServer.KIND_ORDER_ONLY : JobServer.KIND_NONE;
    }

    /** Status, timestamp, command, level, start and finish of a target. */
    int[] seen(int t) {
        if (!has(t)) {
            return new int[] {-1, -1, -1, -1, -1, -1};
        }
        Target x = targets.get(t);
        int command = x.duration + (x.fails ? 16 : 0);
        return new int[] {x.status, x.time, command, x.level, x.startedAt, x.finishedAt};
    }
}
