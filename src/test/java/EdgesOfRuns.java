/** The boundary cases of promises 25 to 27: jobs run again under other ranks, and periods. */
final class EdgesOfRuns {
    private static final int READY = Desk.READY, RUN = Desk.RUN, BLOCK = Desk.BLOCK, IN = Desk.IN, OUT = Desk.OUT;
    private static final int LOST = Desk.LOST, SEND = Desk.SEND;
    private static final int NONE = Desk.NONE, MIN = Desk.MIN, MAX = Desk.MAX;

    private final Desk c;

    private EdgesOfRuns(Desk c) {
        this.c = c;
    }

    static void run(Desk desk) {
        EdgesOfRuns edges = new EdgesOfRuns(desk);
        edges.comesAndNeeds();
        edges.takenAway();
        edges.otherRanks();
        edges.ties();
        edges.needsNothing();
        edges.againRefused();
        edges.slowest();
        edges.periodRange();
        edges.periodOfOne();
        edges.periodTies();
        edges.periodRefused();
    }

    // ---- promise 25

    private void comesAndNeeds() {
        c.test(25, "each comes at the TIME of its READY and needs its DEMAND", "it runs at once, though it waited when it was told", () -> {
            TaskTrace x = c.made(1, 1, 8);
            c.tell(x, READY, 0, -1, 5, RUN, 0, -1, 20, BLOCK, 0, -1, 23);
            c.due("again", x.again(0, 0), 8);
        });
        c.test(25, "each comes at the TIME of its READY and needs its DEMAND", "times behind a wrap of the clock", () -> {
            TaskTrace x = c.made(1, 1, 4);
            c.tell(x, READY, 0, -1, 15, RUN, 0, -1, 14, BLOCK, 0, -1, 13);
            c.due("again", x.again(0, 0), 30);
        });
        c.test(25, "The JOBS of a processor's TASKS run again", "what is no JOB takes no time", () -> {
            TaskTrace x = c.made(1, 2, 8);
            c.due("rank", x.rank(1, 15), 0);
            c.tell(x, LOST, -1, -1, 0, RUN, 1, -1, 0, READY, 0, -1, 2, BLOCK, 1, -1, 10, RUN, 0, -1, 10, BLOCK, 0, -1, 12);
            c.due("again", x.again(0, 0), 4);
        });
        c.test(25, "The JOBS of a processor's TASKS run again", "a task that hasn't blocked has no JOB yet", () -> {
            TaskTrace x = c.made(1, 2, 8);
            c.due("rank", x.rank(1, 15), 0);
            c.tell(x, READY, 1, -1, 0, RUN, 1, -1, 0, READY, 0, -1, 2, RUN, 0, -1, 10, BLOCK, 0, -1, 12, RUN, 1, -1, 12, SEND, -1, 0, 20);
            c.due("again", x.again(0, 0), 4);
            c.tell(x, BLOCK, 1, -1, 21);
            c.due("with a JOB of the other", x.again(0, 0), 21);
        });
        c.test(25, "The JOBS of a processor's TASKS run again", "those of another processor take none of its time", () -> {
            TaskTrace x = c.made(2, 2, 8);
            c.due("home", x.home(1, 1), 0);
            c.due("rank", x.rank(1, 15), 0);
            c.tell(x, READY, 0, -1, 5, RUN, 0, -1, 5, BLOCK, 0, -1, 9);
            c.tellOn(x, 1, READY, 1, -1, 0, RUN, 1, -1, 0, BLOCK, 1, -1, 50);
            c.due("again(0, 0)", x.again(0, 0), 9);
            c.due("again(1, 0), in its HOME's TIME", x.again(1, 0), 50);
        });
        c.test(25, "DONE is the moment its need is filled", "JOBS one behind another, without a gap and with one", () -> {
            TaskTrace x = c.made(1, 1, 8);
            c.tell(x, READY, 0, -1, 0, RUN, 0, -1, 2, BLOCK, 0, -1, 5, READY, 0, -1, 5, RUN, 0, -1, 5, BLOCK, 0, -1, 6);
            c.tell(x, READY, 0, -1, 9, RUN, 0, -1, 10, BLOCK, 0, -1, 14);
            c.due("first", x.again(0, 0), 3);
            c.due("second", x.again(0, 1), 6);
            c.due("third", x.again(0, 2), 13);
        });
    }

    private void takenAway() {
        c.test(25, "STRETCHES in which the processor is IN or that are DARK are taken away", "an interrupt while it waited", () -> {
            TaskTrace x = c.made(1, 1, 8);
            c.tell(x, READY, 0, -1, 0, IN, -1, -1, 2, OUT, -1, -1, 10, RUN, 0, -1, 20, BLOCK, 0, -1, 25);
            c.due("0 to 2 and 10 to 13", x.again(0, 0), 13);
        });
        c.test(25, "STRETCHES in which the processor is IN or that are DARK are taken away", "it comes while IN", () -> {
            TaskTrace x = c.made(1, 1, 8);
            c.tell(x, IN, -1, -1, 0, READY, 0, -1, 1, OUT, -1, -1, 6, RUN, 0, -1, 8, BLOCK, 0, -1, 11);
            c.due("6 to 9", x.again(0, 0), 9);
        });
        c.test(25, "STRETCHES in which the processor is IN or that are DARK are taken away", "its need is filled as an interrupt begins", () -> {
            TaskTrace x = c.made(1, 1, 8);
            c.tell(x, READY, 0, -1, 0, IN, -1, -1, 3, OUT, -1, -1, 10, RUN, 0, -1, 10, BLOCK, 0, -1, 13);
            c.due("0 to 3, not 10", x.again(0, 0), 3);
        });
        c.test(25, "STRETCHES in which the processor is IN or that are DARK are taken away", "JOBS on both sides of a dark time", () -> {
            TaskTrace x = c.made(1, 2, 8);
            c.tell(x, READY, 0, -1, 0, RUN, 0, -1, 2, BLOCK, 0, -1, 5, LOST, -1, -1, 9, RUN, 1, -1, 20, READY, 0, -1, 21);
            c.tell(x, RUN, 0, -1, 30, BLOCK, 0, -1, 34);
            c.due("ahead of it", x.again(0, 0), 3);
            c.due("behind it", x.again(0, 1), 25);
        });
        c.test(25, "also behind the last MARK", "whichever it is: a JOB that was BLOCKED is done by then", () -> {
            for (int last : new int[] {IN, LOST, SEND}) {
                TaskTrace x = c.made(1, 2, 8);
                c.tell(x, READY, 1, -1, 0, RUN, 1, -1, 0, READY, 0, -1, 2, BLOCK, 1, -1, 5, RUN, 0, -1, 5, BLOCK, 0, -1, 9);
                c.tell(x, last, -1, last == SEND ? 0 : -1, 9);
                c.due("0", x.again(0, 0), 6);
                c.due("1", x.again(1, 0), 9);
            }
        });
        c.test(25, "in all other time", "also while the processor did nothing, or ran another", () -> {
            TaskTrace x = c.made(1, 2, 8);
            c.tell(x, READY, 0, -1, 0, READY, 1, -1, 3, RUN, 1, -1, 3, BLOCK, 1, -1, 8, RUN, 0, -1, 9, BLOCK, 0, -1, 16);
            c.due("0 to 7", x.again(0, 0), 7);
            c.due("7 to 12", x.again(1, 0), 12);
        });
    }

    /** Task 1 needs 5 and came at 0, task 0 needs 4 and came at 2; all is told up to 20. */
    private TaskTrace twoThatMeet() {
        TaskTrace x = c.made(1, 2, 8);
        c.tell(x, READY, 1, -1, 0, RUN, 1, -1, 0, READY, 0, -1, 2, BLOCK, 1, -1, 5, RUN, 0, -1, 5, BLOCK, 0, -1, 9, SEND, -1, 0, 20);
        return x;
    }

    private void otherRanks() {
        c.test(25, "whose TASK has the greatest OTHER RANK", "by one: the greater pushes the other off, or waits for none", () -> {
            TaskTrace x = twoThatMeet();
            c.due("other", x.other(0, 15), 0);
            c.due("other", x.other(1, 14), 0);
            c.due("0 from 2 to 6", x.again(0, 0), 6);
            c.due("1 from 0 to 2 and 6 to 9", x.again(1, 0), 9);
            c.due("other", x.other(0, 13), 15);
            c.due("1 from 0 to 5", x.again(1, 0), 5);
            c.due("0 from 5 to 9", x.again(0, 0), 9);
        });
        c.test(25, "what its RANK is, until it is told", "untold ones go by the RANK, told ones don't", () -> {
            TaskTrace x = twoThatMeet();
            c.due("rank", x.rank(1, 1), 0);
            c.due("1 first", x.again(1, 0), 5);
            c.due("rank", x.rank(0, 2), 0);
            c.due("0 pushes it off", x.again(1, 0), 9);
            c.due("other", x.other(0, 0), 2);
            c.due("rank", x.rank(0, 9), 2);
            c.due("the RANK is not asked any more", x.again(1, 0), 5);
        });
        c.test(25, "whose TASK has the greatest OTHER RANK", "RANKS of the trace are not changed by it", () -> {
            TaskTrace x = twoThatMeet();
            c.due("same rank", x.wait(0, 2), 3);
            c.due("other", x.other(1, 15), 0);
            c.due("again", x.again(0, 0), 9);
            c.due("same rank", x.wait(0, 2), 3);
        });
    }

    private void ties() {
        c.test(25, "(then the least number", "it pushes off a greater one of the same OTHER RANK", () -> {
            TaskTrace x = twoThatMeet();
            c.due("0 from 2 to 6", x.again(0, 0), 6);
            c.due("1 from 0 to 2 and 6 to 9", x.again(1, 0), 9);
        });
        c.test(25, "(then the least number", "the greater doesn't push off the less", () -> {
            TaskTrace x = c.made(1, 2, 8);
            c.tell(x, READY, 0, -1, 0, RUN, 0, -1, 0, READY, 1, -1, 2, RUN, 1, -1, 2, BLOCK, 1, -1, 6, RUN, 0, -1, 6, BLOCK, 0, -1, 9);
            c.due("0 from 0 to 5", x.again(0, 0), 5);
            c.due("1 from 5 to 9", x.again(1, 0), 9);
        });
        c.test(25, "of one TASK the earliest)", "two JOBS of one TASK wait for another's", () -> {
            TaskTrace x = c.made(1, 2, 8);
            c.tell(x, READY, 0, -1, 0, READY, 1, -1, 0, RUN, 1, -1, 0, BLOCK, 1, -1, 5, READY, 1, -1, 5, RUN, 0, -1, 5, BLOCK, 0, -1, 15);
            c.tell(x, RUN, 1, -1, 15, BLOCK, 1, -1, 18);
            c.due("0 from 0 to 10", x.again(0, 0), 10);
            c.due("the earlier", x.again(1, 0), 15);
            c.due("the later", x.again(1, 1), 18);
        });
        c.test(25, "the JOB runs that has come, isn't done", "one that comes as another is done goes on at once", () -> {
            TaskTrace x = c.made(1, 2, 8);
            c.tell(x, READY, 1, -1, 0, RUN, 1, -1, 0, BLOCK, 1, -1, 4, READY, 0, -1, 4, RUN, 0, -1, 4, BLOCK, 0, -1, 6);
            c.due("1", x.again(1, 0), 4);
            c.due("0", x.again(0, 0), 6);
        });
        c.test(25, "the JOB runs that has come, isn't done", "all eight TASKS at one time, by number", () -> {
            TaskTrace x = c.made(1, 8, 8);
            for (int t = 7; t >= 0; t--) {
                c.tell(x, READY, t, -1, 0);
            }
            for (int t = 7; t >= 0; t--) {
                c.tell(x, RUN, t, -1, 2 * (7 - t), BLOCK, t, -1, 2 * (8 - t));
            }
            for (int t = 0; t < 8; t++) {
                c.due("again(" + t + ", 0)", x.again(t, 0), 2 * t + 2);
            }
        });
    }

    private void needsNothing() {
        String words = "a JOB that needs 0 is DONE when it comes";
        c.test(25, words, "at once, though it blocked later", () -> {
            TaskTrace x = c.made(1, 1, 8);
            c.tell(x, READY, 0, -1, 3, RUN, 0, -1, 9, BLOCK, 0, -1, 9);
            c.due("again", x.again(0, 0), 3);
        });
        c.test(25, words, "while a greater one has the processor", () -> {
            TaskTrace x = c.made(1, 2, 8);
            c.due("other", x.other(1, 15), 0);
            c.tell(x, READY, 1, -1, 0, RUN, 1, -1, 0, READY, 0, -1, 3, RUN, 0, -1, 3, BLOCK, 0, -1, 3, RUN, 1, -1, 3, BLOCK, 1, -1, 8);
            c.due("0", x.again(0, 0), 3);
            c.due("1", x.again(1, 0), 8);
        });
        c.test(25, words, "while IN", () -> {
            TaskTrace x = c.made(1, 1, 8);
            c.tell(x, IN, -1, -1, 0, READY, 0, -1, 3, OUT, -1, -1, 9, RUN, 0, -1, 9, BLOCK, 0, -1, 9);
            c.due("again", x.again(0, 0), 3);
        });
    }

    private void againRefused() {
        c.test(25, "NONE: there is none", "a task below 0 or from T on", () -> {
            TaskTrace x = twoThatMeet();
            for (int task : new int[] {-1, MIN, 2, 8, MAX}) {
                c.due("again(" + task + ", 0)", x.again(task, 0), NONE);
            }
        });
        c.test(25, "NONE: there is none", "i below 0 or from the number of JOBS on", () -> {
            TaskTrace x = twoThatMeet();
            for (int i : new int[] {-1, MIN, 1, 66, 67, MAX}) {
                c.due("again(0, " + i + ")", x.again(0, i), NONE);
            }
            c.due("without marks", c.made(1, 1, 8).again(0, 0), NONE);
        });
    }

    // ---- promise 26

    private void slowest() {
        c.test(26, "The greatest of DONE less the TIME of READY over all JOBS of a TASK", "the first, one between, the last", () -> {
            int[][] needs = {{5, 4, 3}, {4, 5, 3}, {3, 4, 5}};
            for (int[] n : needs) {
                TaskTrace x = c.made(1, 1, 8);
                for (int i = 0; i < 3; i++) {
                    c.tell(x, READY, 0, -1, 20 * i, RUN, 0, -1, 20 * i + 2, BLOCK, 0, -1, 20 * i + 2 + n[i]);
                }
                c.due("slowest", x.slowest(0), 5);
            }
        });
        c.test(26, "The greatest of DONE less the TIME of READY over all JOBS of a TASK", "under OTHER RANKS", () -> {
            TaskTrace x = twoThatMeet();
            c.due("1, pushed off", x.slowest(1), 9);
            c.due("other", x.other(1, 1), 0);
            c.due("1, first", x.slowest(1), 5);
            c.due("0 behind it", x.slowest(0), 7);
        });
        c.test(26, "The greatest of DONE less the TIME of READY over all JOBS of a TASK", "all need 0", () -> {
            TaskTrace x = c.made(1, 1, 8);
            c.tell(x, READY, 0, -1, 3, RUN, 0, -1, 9, BLOCK, 0, -1, 9);
            c.due("slowest", x.slowest(0), 0);
        });
        c.test(26, "NONE: no such TASK, or it has none", "without JOBS", () -> {
            TaskTrace x = c.made(1, 2, 8);
            c.due("without marks", x.slowest(0), NONE);
            c.tell(x, READY, 0, -1, 3, RUN, 0, -1, 9);
            c.due("not blocked yet", x.slowest(0), NONE);
            c.tell(x, BLOCK, 0, -1, 9);
            c.due("the other", x.slowest(1), NONE);
        });
        c.test(26, "NONE: no such TASK, or it has none", "a task below 0 or from T on", () -> {
            TaskTrace x = twoThatMeet();
            for (int task : new int[] {-1, MIN, 2, 8, MAX}) {
                c.due("slowest(" + task + ")", x.slowest(task), NONE);
            }
        });
    }

    // ---- promise 27

    /** Task 0 has a JOB of length 0 at each of these times. */
    private TaskTrace readyAt(int... times) {
        TaskTrace x = c.made(1, 2, 16);
        for (int t : times) {
            c.tell(x, READY, 0, -1, t & 65535, RUN, 0, -1, t & 65535, BLOCK, 0, -1, t & 65535);
        }
        return x;
    }

    private void periodIs(int p, int jitter, int... times) {
        TaskTrace x = readyAt(times);
        c.due("p", x.period(0, 0), p);
        c.due("jitter", x.period(0, 1), jitter);
    }

    private void periodRange() {
        c.test(27, "PERIOD of a TASK's JOBS (3 at least)", "2 are too few, 3 are enough", () -> {
            TaskTrace x = readyAt(5, 15);
            c.due("of 2", x.period(0, 0), NONE);
            c.due("of 2", x.period(0, 1), NONE);
            c.tell(x, READY, 0, -1, 25, RUN, 0, -1, 25);
            c.due("the third hasn't blocked", x.period(0, 0), NONE);
            c.tell(x, BLOCK, 0, -1, 40);
            c.due("of 3", x.period(0, 0), 10);
            c.due("of 3", x.period(0, 1), 0);
        });
        c.test(27, "1 .. the last READY's TIME less the first one's (at least 1)", "p is 1 where less would be better", () -> {
            periodIs(1, 1, 7, 7, 8);
            periodIs(1, 1, 7, 8, 8);
            periodIs(1, 2, 7, 7, 7, 8);
            periodIs(1, 3, 7, 8, 8, 8, 8);
        });
        c.test(27, "If the last READY is at the first one's TIME, p is 1", "the JITTER is then as many as there are, less 1", () -> {
            periodIs(1, 2, 7, 7, 7);
            periodIs(1, 4, 0, 0, 0, 0, 0);
        });
        c.test(27, "the greatest less the least of (the k-th READY's TIME less k p)", "over wraps of the clock", () -> {
            periodIs(60000, 0, 0, 60000, 120000, 180000);
            periodIs(65535, 0, 65535, 131070, 196605);
            periodIs(100, 7, 3, 104, 200, 307, 400);
        });
        c.test(27, "the greatest less the least of (the k-th READY's TIME less k p)", "as many JOBS as 200 marks can hold, as far apart as they can be", () -> {
            int[] times = new int[66];
            for (int k = 1; k < 66; k++) {
                times[k] = k * 65535;
            }
            periodIs(65535, 0, times);
            times[65]--;
            periodIs(65535, 1, times);
        });
        c.test(27, "1 .. the last READY's TIME less the first one's (at least 1)", "three JOBS as far apart as 200 marks allow", () -> {
            for (int early : new int[] {0, 1, 30001}) {
                TaskTrace x = farApart(early);
                int second = 96 * 65535 - early;
                int[] times = {0, second, second + 96 * 65535};
                for (int k = 0; k < 3; k++) {
                    c.due("the time of JOB " + k, x.job(0, k, 0), times[k]);
                }
                int p = triedPeriod(times);
                c.due("p", x.period(0, 0), p);
                c.due("jitter", x.period(0, 1), jitter(times, p));
            }
        });
        c.test(27, "(The READYs of JOBS 0, 1, .. in order.)", "a READY that is no JOB's doesn't count", () -> {
            TaskTrace x = c.made(1, 2, 8);
            c.tell(x, READY, 0, -1, 0, RUN, 0, -1, 0, BLOCK, 0, -1, 1, READY, 0, -1, 3, LOST, -1, -1, 4, RUN, 1, -1, 5);
            c.tell(x, READY, 0, -1, 10, RUN, 0, -1, 10, BLOCK, 0, -1, 11);
            c.due("two JOBS of three READYs", x.period(0, 0), NONE);
            c.tell(x, READY, 0, -1, 20, RUN, 0, -1, 20, BLOCK, 0, -1, 21);
            c.due("p", x.period(0, 0), 10);
            c.due("jitter", x.period(0, 1), 0);
        });
    }

    /** Three JOBS of length 0 with 95 letters between each two, each mark 65535 behind the one ahead, the second JOB a little less. */
    private TaskTrace farApart(int early) {
        TaskTrace x = c.made(1, 1, 16);
        int[] times = {0, 96 * 65535 - early, 192 * 65535 - early};
        for (int job = 0; job < 3; job++) {
            int clock = times[job] & 65535;
            c.tell(x, READY, 0, -1, clock, RUN, 0, -1, clock, BLOCK, 0, -1, clock);
            for (int k = 1; k <= 95 && job < 2; k++) {
                int letter = 95 * job + k;
                c.due("letter", x.mark(0, SEND + letter / 64, -1, letter % 64, times[job] + 65535 * k & 65535), letter + 2 + 3 * job);
            }
        }
        return x;
    }

    private void periodOfOne() {
        c.test(27, "The PERIOD of a TASK's JOBS", "another TASK's JOBS on the same processor don't count", () -> {
            TaskTrace x = c.made(1, 2, 8);
            int[] times = {0, 20, 3, 40, 41};
            int[] tasks = {0, 0, 1, 0, 1};
            int[] order = {0, 2, 1, 3, 4};
            for (int k : order) {
                c.tell(x, READY, tasks[k], -1, times[k], RUN, tasks[k], -1, times[k], BLOCK, tasks[k], -1, times[k]);
            }
            c.due("two JOBS of the other", x.period(1, 0), NONE);
            c.due("p", x.period(0, 0), 20);
            c.due("jitter", x.period(0, 1), 0);
            c.tell(x, READY, 1, -1, 81, RUN, 1, -1, 81, BLOCK, 1, -1, 81);
            // 3, 41, 81: p 39 leaves 3, 2, 3
            c.due("the other's p", x.period(1, 0), 39);
            c.due("the other's jitter", x.period(1, 1), 1);
        });
    }

    private void periodTies() {
        c.test(27, "with the least JITTER", "p between what the first and the last step say", () -> {
            periodIs(10, 1, 10, 20, 31);
            periodIs(5, 5, 0, 0, 10, 15);
            periodIs(5, 5, 0, 10, 10);
        });
        c.test(27, "then the least p", "two p with the same JITTER", () -> {
            periodIs(2, 3, 0, 0, 5);
            periodIs(2, 3, 0, 5, 5);
            periodIs(10, 1, 0, 10, 21);
        });
        c.test(27, "with the least JITTER", "each p there is has been tried: short rows by hand", () -> {
            int[][] rows = {{0, 0, 20}, {0, 1, 2, 9}, {0, 8, 9, 10}, {3, 4, 9, 9, 30}, {1, 20, 21, 22, 23}, {0, 0, 0, 12}, {5, 50, 51, 99, 100}};
            for (int[] r : rows) {
                periodIs(triedPeriod(r), jitter(r, triedPeriod(r)), r);
            }
        });
    }

    private static int triedPeriod(int[] times) {
        int best = 1;
        for (int p = 2; p <= times[times.length - 1] - times[0]; p++) {
            if (jitter(times, p) < jitter(times, best)) {
                best = p;
            }
        }
        return best;
    }

    private static int jitter(int[] times, int p) {
        int least = MAX;
        int greatest = MIN;
        for (int k = 0; k < times.length; k++) {
            least = Math.min(least, times[k] - k * p);
            greatest = Math.max(greatest, times[k] - k * p);
        }
        return greatest - least;
    }

    private void periodRefused() {
        c.test(27, "NONE: no such TASK, what, or fewer than 3 JOBS", "a task below 0 or from T on", () -> {
            TaskTrace x = readyAt(1, 2, 3);
            for (int task : new int[] {-1, MIN, 2, 8, MAX}) {
                c.due("period(" + task + ", 0)", x.period(task, 0), NONE);
            }
        });
        c.test(27, "NONE: no such TASK, what, or fewer than 3 JOBS", "what below 0 or above 1", () -> {
            TaskTrace x = readyAt(1, 2, 3);
            for (int what : new int[] {-1, MIN, 2, MAX}) {
                c.due("period(0, " + what + ")", x.period(0, what), NONE);
            }
        });
        c.test(27, "NONE: no such TASK, what, or fewer than 3 JOBS", "no JOB, 1 JOB, 2 JOBS", () -> {
            c.due("none", readyAt().period(0, 0), NONE);
            c.due("1", readyAt(4).period(0, 0), NONE);
            c.due("2", readyAt(4, 5).period(0, 1), NONE);
            c.due("another task's", readyAt(1, 2, 3).period(1, 0), NONE);
        });
    }
}
