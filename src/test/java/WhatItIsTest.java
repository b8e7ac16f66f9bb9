/** The first section of the document, 'What it is', sentence by sentence. */
public final class WhatItIsTest {
    private static final Due due = new Due();

    public static void main(String[] args) {
        upToThirtyTwoTargets();
        aTimestampAndACommand();
        joinedByTwoKinds();
        bothKindsComeFirst();
        onlyNormalOnesMakeOutOfDate();
        theSubBuildIsTheCommand();
        theLimitIsShared();
        theFirstJobOfEachLevelIsFree();
        furtherJobsTakeFromOnePool();
        commandsEndInTheirTick();
        remadeTargetsAreStampedAfresh();
        theSubBuildEndsWithItsTargets();
        everyReadyTargetStarts();
        upToDateTargetsAreMarkedAtOnce();
        keepGoingSkipsOnlyWhatDepends();
        aFailedSubFailsTheSubmakeTarget();
        aSkippedSubFailsTheSubmakeTarget();
        withoutKeepGoingNothingNewBegins();
        waitingSubsAreSkipped();
        everythingWaitingIsSkipped();
        due.end();
    }

    private static void upToThirtyTwoTargets() {
        due.sentence("JobServer simulates a parallel build of up to 32 targets, numbered 0..n-1.");
        for (int n = 1; n <= 32; n++) {
            JobServer x = new JobServer(n, 8, 0);
            x.start();
            Due.toTheEnd(x);
            for (int t = 0; t < n; t++) {
                due.is("status(" + t + ") of " + n, x.status(t), JobServer.STATUS_REMADE);
                due.is("finishedAt(" + t + ") of " + n, x.finishedAt(t), t / 8 + 1);
            }
            due.is("status(" + n + ")", x.status(n), -1);
        }
        JobServer most = new JobServer(33, 8, 0);
        due.is("status(31) of 33", most.status(31), JobServer.STATUS_WAITING);
        due.is("status(32) of 33", most.status(32), -1);
    }

    private static void aTimestampAndACommand() {
        due.sentence("Each target carries a timestamp (0 means the file is missing) and a scripted "
                + "command with a duration and a success or failure outcome.");
        JobServer x = new JobServer(32, 8, 1);
        for (int t = 0; t < 32; t++) {
            x.setTime(t, t % 4 == 0 ? 7 + t : 0);
            x.setCommand(t, 1 + t % 15, t % 2 == 1);
        }
        x.start();
        Due.toTheEnd(x);
        for (int t = 0; t < 32; t++) {
            if (t % 4 == 0) {
                due.is("timeOf(" + t + "), there", x.timeOf(t), 7 + t);
                due.is("startedAt(" + t + "), there", x.startedAt(t), -1);
            } else {
                boolean fails = t % 2 == 1;
                int took = x.finishedAt(t) - x.startedAt(t);
                int stamp = JobServer.STAMP_BASE + x.finishedAt(t);
                due.is("duration of " + t, took, 1 + t % 15);
                due.is("outcome of " + t, x.status(t), fails ? 4 : 2);
                due.is("timeOf(" + t + "), missing", x.timeOf(t), fails ? 0 : stamp);
            }
        }
    }

    private static void joinedByTwoKinds() {
        due.sentence("Targets are joined by prerequisites, each NORMAL or ORDER_ONLY.");
        JobServer x = new JobServer(32, 1, 0);
        for (int t = 0; t < 32; t++) {
            for (int p = t + 1; p < 32; p++) {
                boolean orderOnly = (t + p) % 3 == 0;
                due.is("addPrereq(" + t + ", " + p + ")", x.addPrereq(t, p, orderOnly), true);
            }
        }
        for (int t = 0; t < 32; t++) {
            for (int p = t + 1; p < 32; p++) {
                int want = (t + p) % 3 == 0 ? JobServer.KIND_ORDER_ONLY : JobServer.KIND_NORMAL;
                due.is("prereqKind(" + t + ", " + p + ")", x.prereqKind(t, p), want);
                due.is("prereqKind(" + p + ", " + t + ")", x.prereqKind(p, t), 0);
            }
        }
        x.start();
        Due.toTheEnd(x);
        for (int t = 0; t < 32; t++) {
            due.is("startedAt(" + t + ")", x.startedAt(t), 31 - t);
        }
    }

    private static void bothKindsComeFirst() {
        due.sentence("Both kinds must first reach a good done status (REMADE or UPTODATE)");
        for (int kind = 0; kind <= 1; kind++) {
            boolean orderOnly = kind == 1;
            JobServer x = new JobServer(7, 8, 1);
            x.setCommand(0, 3, false);
            x.addPrereq(1, 0, orderOnly);
            x.setTime(2, 1);
            x.addPrereq(3, 2, orderOnly);
            x.setCommand(4, 2, true);
            x.addPrereq(5, 4, orderOnly);
            x.addPrereq(6, 5, orderOnly);
            x.start();
            due.statuses("at the start", x, 1, 0, 3, 1, 1, 0, 0);
            due.ticks(x, 1, 1);
            due.statuses("over REMADE, UPTODATE, FAILED, SKIPPED", x, 1, 0, 3, 2, 4, 5, 5);
            due.ticks(x, 1, 1, -1);
            due.startedAt(x, 0, 3, -1, 0, 0, -1, -1);
        }
    }

    private static void onlyNormalOnesMakeOutOfDate() {
        due.sentence("but only NORMAL ones can make a target out of date.");
        JobServer x = new JobServer(6, 8, 0);
        x.addPrereq(1, 0, false);
        x.addPrereq(2, 0, true);
        x.setTime(1, 1);
        x.setTime(2, 1);
        x.setTime(3, 9);
        x.addPrereq(4, 3, false);
        x.addPrereq(5, 3, true);
        x.setTime(4, 8);
        x.setTime(5, 8);
        x.start();
        due.statuses("4 and 5 are older than 3", x, 1, 0, 0, 3, 1, 3);
        due.ticks(x, 2);
        due.statuses("1 and 2 are older than 0", x, 2, 1, 3, 3, 2, 3);
    }

    private static void theSubBuildIsTheCommand() {
        due.sentence("One top-level target may be declared the sub-make target: its command is a "
                + "nested sub-build that builds a separate group of sub targets.");
        JobServer x = new JobServer(6, 2, 0);
        due.is("setSubmake(1)", x.setSubmake(1), true);
        due.is("setSubmake(2)", x.setSubmake(2), false);
        due.is("setSub(3)", x.setSub(3), true);
        due.is("setSub(4)", x.setSub(4), true);
        x.setCommand(1, 9, true);
        x.setCommand(3, 2, false);
        x.setCommand(4, 3, false);
        x.addPrereq(4, 3, false);
        x.addPrereq(1, 0, false);
        x.addPrereq(5, 1, false);
        x.setTime(2, 1);
        x.start();
        due.statuses("the group waits for its sub-make target", x, 1, 0, 3, 0, 0, 0);
        due.ticks(x, 1);
        due.statuses("the sub-build runs", x, 2, 1, 3, 1, 0, 0);
        due.ticks(x, 0, 1, 0, 0, 2);
        due.statuses("its end is that of its last target", x, 2, 2, 3, 2, 2, 1);
        due.ticks(x, 1, -1);
        due.finishedAt(x, 1, 6, 0, 3, 6, 7);
    }

    private static void theLimitIsShared() {
        due.sentence("A limit of L job tokens is shared by the top build and the sub-build.");
        for (int limit = 1; limit <= 8; limit++) {
            for (int tops = 0; tops <= 10; tops++) {
                JobServer x = new JobServer(22, limit, 0);
                x.setSubmake(0);
                for (int t = tops + 1; t < 22; t++) {
                    x.setSub(t);
                }
                x.start();
                int jobs = 0;
                for (int t = 1; t < 22; t++) {
                    jobs += x.status(t) == JobServer.STATUS_RUNNING ? 1 : 0;
                }
                due.is("jobs with " + tops + " tops under " + limit, jobs, limit);
            }
        }
    }

    private static void theFirstJobOfEachLevelIsFree() {
        due.sentence("Each build level runs its first job for free (the running sub-make target "
                + "counts as a top-level job)");
        for (int limit = 1; limit <= 8; limit++) {
            JobServer x = new JobServer(3, limit, 0);
            x.setSubmake(1);
            x.setSub(2);
            x.addPrereq(1, 0, false);
            x.setCommand(2, 2, false);
            x.start();
            due.statuses("a top target", x, 1, 0, 0);
            due.is("tokensFree() under " + limit, x.tokensFree(), limit - 1);
            due.ticks(x, 1);
            due.statuses("the sub-make target and a sub target", x, 2, 1, 1);
            due.is("tokensFree() under " + limit, x.tokensFree(), limit - 1);
        }
    }

    private static void furtherJobsTakeFromOnePool() {
        due.sentence("and every further concurrent job takes one of the L-1 tokens in the common "
                + "pool.");
        JobServer x = new JobServer(9, 4, 0);
        x.setSubmake(0);
        for (int t = 4; t < 9; t++) {
            x.setSub(t);
        }
        x.setCommand(1, 2, false);
        x.setTime(2, 1);
        x.setTime(3, 1);
        x.setCommand(4, 3, false);
        x.setCommand(5, 4, false);
        x.setCommand(6, 5, false);
        x.start();
        due.statuses("1 beside 0, 5 and 6 beside 4", x, 1, 1, 3, 3, 1, 1, 1, 0, 0);
        due.is("tokensFree()", x.tokensFree(), 0);
        due.ticks(x, 0, 1);
        due.statuses("the token of 1 goes to 7", x, 1, 2, 3, 3, 1, 1, 1, 1, 0);
        due.is("tokensFree()", x.tokensFree(), 0);
        due.ticks(x, 2);
        due.statuses("one of two freed ones goes to 8", x, 1, 2, 3, 3, 2, 1, 1, 2, 1);
        due.is("tokensFree()", x.tokensFree(), 1);
        due.ticks(x, 2);
        due.is("tokensFree(), 6 being alone", x.tokensFree(), 3);
        due.ticks(x, 2, -1);
    }

    private static void commandsEndInTheirTick() {
        due.sentence("After start(), each tick() advances simulated time by one: it finishes "
                + "commands whose time is up");
        JobServer x = new JobServer(15, 8, 1);
        for (int t = 0; t < 8; t++) {
            x.setCommand(t, t + 1, t % 2 == 0);
        }
        for (int t = 8; t < 15; t++) {
            x.setTime(t, 1);
        }
        x.start();
        for (int clock = 1; clock <= 8; clock++) {
            due.is("tick() to " + clock, x.tick(), 1);
            for (int t = 0; t < 8; t++) {
                due.is("finishedAt(" + t + ")", x.finishedAt(t), t < clock ? t + 1 : -1);
            }
        }
        due.is("tick() when quiet", x.tick(), -1);
    }

    private static void remadeTargetsAreStampedAfresh() {
        due.sentence("stamps remade targets with a fresh time");
        JobServer x = new JobServer(3, 1, 0);
        x.setTime(0, JobServer.MAX_TIME);
        x.setTime(1, JobServer.MAX_TIME - 1);
        x.setTime(2, JobServer.MAX_TIME);
        x.addPrereq(1, 0, false);
        x.addPrereq(2, 1, false);
        x.setCommand(1, 3, false);
        x.start();
        due.ticks(x, 0, 0);
        due.is("timeOf(1) while it runs", x.timeOf(1), JobServer.MAX_TIME - 1);
        due.ticks(x, 1);
        due.is("timeOf(1)", x.timeOf(1), 1000003);
        due.statuses("2 is older than 1 by now", x, 3, 2, 1);
        due.ticks(x, 1, -1);
        due.is("timeOf(2)", x.timeOf(2), 1000004);
        due.is("timeOf(0)", x.timeOf(0), 1000000);
    }

    private static void theSubBuildEndsWithItsTargets() {
        due.sentence("finishes the sub-build once all its targets are done");
        JobServer x = new JobServer(5, 1, 0);
        x.setSubmake(4);
        for (int t = 0; t < 3; t++) {
            x.setSub(t);
        }
        x.setTime(2, 1);
        x.setCommand(1, 2, false);
        x.setTime(3, 1);
        x.start();
        due.statuses("at the start", x, 1, 0, 3, 3, 1);
        due.ticks(x, 1, 0);
        due.statuses("1 still runs", x, 2, 1, 3, 3, 1);
        due.ticks(x, 2, -1);
        due.statuses("all are done", x, 2, 2, 3, 3, 2);
        due.finishedAt(x, 1, 3, 0, 0, 3);
    }

    private static void everyReadyTargetStarts() {
        due.sentence("and then starts every ready, out-of-date target for which a token is free, "
                + "in ascending index order (within each pass; see SETTLE)");
        JobServer x = new JobServer(10, 3, 0);
        for (int t = 0; t < 3; t++) {
            x.addPrereq(t, 9, true);
        }
        x.setTime(4, 1);
        x.addPrereq(5, 9, false);
        x.setCommand(9, 2, false);
        x.start();
        due.statuses("9 is ready, but comes last", x, 0, 0, 0, 1, 3, 0, 1, 1, 0, 0);
        due.ticks(x, 3);
        due.statuses("the next ones", x, 0, 0, 0, 2, 3, 0, 2, 2, 1, 1);
        due.is("tokensFree()", x.tokensFree(), 1);
        due.ticks(x, 1, 1);
        due.statuses("three of four that 9 held up", x, 1, 1, 1, 2, 3, 0, 2, 2, 2, 2);
        due.ticks(x, 3, 1, -1);
        due.startedAt(x, 3, 3, 3, 0, -1, 4, 0, 0, 1, 1);
    }

    private static void upToDateTargetsAreMarkedAtOnce() {
        due.sentence("marking up-to-date targets at once.");
        JobServer x = new JobServer(32, 1, 0);
        for (int t = 0; t < 31; t++) {
            x.setTime(t, 5);
            x.addPrereq(t, t + 1, t == 30);
        }
        x.start();
        due.is("status(31)", x.status(31), JobServer.STATUS_RUNNING);
        due.is("tick()", x.tick(), 1);
        for (int t = 0; t < 31; t++) {
            due.is("status(" + t + ")", x.status(t), JobServer.STATUS_UPTODATE);
            due.is("finishedAt(" + t + ")", x.finishedAt(t), 1);
        }
    }

    private static void keepGoingSkipsOnlyWhatDepends() {
        due.sentence("In keep-going mode a failure only skips the targets that depend on it.");
        JobServer x = new JobServer(8, 1, 1);
        x.setCommand(0, 1, true);
        x.addPrereq(1, 0, false);
        x.addPrereq(2, 1, true);
        x.addPrereq(4, 3, false);
        x.setTime(5, 1);
        x.addPrereq(5, 3, true);
        x.addPrereq(6, 4, false);
        x.addPrereq(6, 2, true);
        x.start();
        due.ticks(x, 1);
        due.statuses("1, 2 and 6 depend on 0", x, 4, 5, 5, 1, 0, 0, 5, 0);
        due.ticks(x, 1, 1, 1, -1);
        due.statuses("the others are built", x, 4, 5, 5, 2, 2, 3, 5, 2);
    }

    private static void aFailedSubFailsTheSubmakeTarget() {
        due.sentence("A failed or skipped sub target also makes the sub-make target FAILED, which "
                + "skips the targets that depend on the sub-make target.", "failed");
        JobServer x = new JobServer(7, 2, 1);
        x.setSubmake(0);
        x.setSub(1);
        x.setSub(2);
        x.setCommand(1, 1, true);
        x.setCommand(2, 2, false);
        x.addPrereq(3, 0, false);
        x.addPrereq(4, 0, true);
        x.addPrereq(5, 4, true);
        x.start();
        due.ticks(x, 1);
        due.statuses("the sub-build goes on", x, 1, 4, 1, 0, 0, 0, 1);
        due.ticks(x, 3, -1);
        due.statuses("at the end", x, 4, 4, 2, 5, 5, 5, 2);
        due.finishedAt(x, 2, 1, 2, 2, 2, 2, 2);
    }

    /** The failure is that of 1, a top target; 4 is a sub target that never runs for it. */
    private static void aSkippedSubFailsTheSubmakeTarget() {
        due.sentence("A failed or skipped sub target also makes the sub-make target FAILED",
                "skipped");
        JobServer x = new JobServer(6, 2, 0);
        x.setSubmake(0);
        x.setCommand(1, 2, true);
        x.setSub(3);
        x.setSub(4);
        x.setCommand(3, 4, false);
        x.addPrereq(5, 0, true);
        x.start();
        due.statuses("at the start", x, 1, 1, 0, 1, 0, 0);
        due.ticks(x, 0, 1, 0, 1);
        due.statuses("4 is skipped", x, 1, 4, 0, 2, 5, 0);
        due.ticks(x, 1, -1);
        due.statuses("at the end", x, 4, 4, 5, 2, 5, 5);
        due.finishedAt(x, 5, 2, 5, 4, 4, 5);
    }

    private static void withoutKeepGoingNothingNewBegins() {
        due.sentence("Without keep-going, after a failure no target starts or is marked up to "
                + "date.", "in either build");
        JobServer x = new JobServer(9, 4, 0);
        x.setSubmake(0);
        x.setSub(5);
        x.setSub(6);
        x.setSub(7);
        x.setTime(6, 1);
        x.addPrereq(6, 5, true);
        x.addPrereq(7, 5, false);
        x.setCommand(1, 1, true);
        x.setCommand(2, 3, false);
        x.setTime(3, 1);
        x.addPrereq(3, 2, true);
        x.addPrereq(4, 2, false);
        x.setCommand(5, 2, false);
        x.setCommand(8, 5, false);
        x.start();
        due.statuses("at the start", x, 1, 1, 1, 0, 0, 1, 0, 0, 1);
        due.ticks(x, 1, 1, 2);
        due.statuses("8 still runs", x, 4, 4, 2, 0, 0, 2, 5, 5, 1);
        due.ticks(x, 0, 1, -1);
        due.statuses("at the end", x, 4, 4, 2, 5, 5, 2, 5, 5, 2);
        due.startedAt(x, 0, 0, 0, -1, -1, 0, -1, -1, 0);
    }

    private static void waitingSubsAreSkipped() {
        due.sentence("Waiting sub targets are skipped once no sub target runs");
        JobServer x = new JobServer(7, 3, 0);
        x.setSubmake(0);
        for (int t = 2; t < 6; t++) {
            x.setSub(t);
        }
        x.setCommand(1, 6, false);
        x.setCommand(2, 1, true);
        x.setCommand(3, 3, false);
        x.setTime(5, 1);
        x.addPrereq(5, 4, true);
        x.start();
        due.statuses("at the start", x, 1, 1, 1, 1, 0, 0, 0);
        due.ticks(x, 1, 0);
        due.statuses("3 still runs", x, 1, 1, 4, 1, 0, 0, 0);
        due.ticks(x, 1);
        due.statuses("no sub target runs", x, 1, 1, 4, 2, 5, 5, 0);
        due.finishedAt(x, -1, -1, 1, 3, 3, 3, -1);
    }

    private static void everythingWaitingIsSkipped() {
        due.sentence("and everything still waiting is skipped once nothing runs (exact rules under "
                + "SETTLE).");
        JobServer x = new JobServer(6, 2, 0);
        x.setCommand(0, 1, true);
        x.setCommand(1, 4, false);
        x.setSubmake(2);
        x.setSub(3);
        x.setTime(4, 1);
        x.addPrereq(4, 1, true);
        x.start();
        due.ticks(x, 1, 0, 0);
        due.statuses("1 still runs", x, 4, 1, 0, 0, 0, 0);
        due.ticks(x, 1, -1);
        due.statuses("nothing runs", x, 4, 2, 5, 5, 5, 5);
        due.finishedAt(x, 1, 4, 4, 4, 4, 4);
    }
}
