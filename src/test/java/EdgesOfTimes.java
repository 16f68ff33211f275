import java.util.function.IntUnaryOperator;
import java.util.function.ToIntFunction;

/** The boundary cases of promises 10 to 18: how long a task counts as what, who held it up, and its jobs. */
final class EdgesOfTimes {
    private static final int READY = Desk.READY, RUN = Desk.RUN, BLOCK = Desk.BLOCK, WANT = Desk.WANT, LOCK = Desk.LOCK;
    private static final int FREE = Desk.FREE, IN = Desk.IN, OUT = Desk.OUT, LOST = Desk.LOST, SEND = Desk.SEND;
    private static final int NONE = Desk.NONE, MIN = Desk.MIN, MAX = Desk.MAX;

    private final Desk c;

    private EdgesOfTimes(Desk c) {
        this.c = c;
    }

    static void run(Desk desk) {
        EdgesOfTimes edges = new EdgesOfTimes(desk);
        edges.stretches();
        edges.darkness();
        edges.sumRefusals();
        edges.busy();
        edges.waits();
        edges.waitRefusals();
        edges.heldFirst();
        edges.heldByRank();
        edges.heldRefusals();
        edges.chain();
        edges.chainsThatNeverEnd();
        edges.jobs();
        edges.jobsAndDarkness();
        edges.job();
        edges.worst();
        edges.late();
        edges.askedAgain();
    }

    private void sums(TaskTrace x, int task, int... due) {
        for (int what = 0; what < due.length; what++) {
            c.due("sum(" + task + ", " + what + ")", x.sum(task, what), due[what]);
        }
    }

    // ---- promise 10

    private void stretches() {
        c.test(10, "the last MARK has none", "no mark at all, and one alone", () -> {
            TaskTrace x = c.made(1, 1, 8);
            sums(x, 0, 0, 0, 0, 0, 0, 0);
            c.tell(x, READY, 0, -1, 200);
            sums(x, 0, 0, 0, 0, 0, 0, 0);
        });
        c.test(10, "the last MARK has none", "how a task is behind it doesn't count", () -> {
            TaskTrace x = c.made(1, 1, 8);
            c.tell(x, SEND, -1, 0, 10, READY, 0, -1, 13);
            sums(x, 0, 3, 0, 0, 0, 0, 3);
        });
        c.test(10, "goes from its TIME to that of the next MARK of the processor", "another processor's marks don't end it", () -> {
            TaskTrace x = c.made(2, 2, 8);
            c.due("home", x.home(1, 1), 0);
            c.tell(x, READY, 0, -1, 10);
            c.tellOn(x, 1, LOST, -1, -1, 12, LOST, -1, -1, 90);
            c.tell(x, RUN, 0, -1, 20);
            sums(x, 0, 0, 10, 0, 0, 0, 10);
            sums(x, 1, 0, 0, 0, 0, 78, 78);
        });
        c.test(10, "A trace's length is the STRETCHES added", "what is ahead of the first mark doesn't count", () -> {
            TaskTrace x = c.made(1, 1, 8);
            c.tell(x, SEND, -1, 0, 255, SEND, -1, 1, 255, SEND, -1, 2, 254);
            sums(x, 0, 255, 0, 0, 0, 0, 255);
        });
        c.test(10, "How long, of its HOME's trace, a TASK counts as what", "stretches of length 0 add nothing", () -> {
            TaskTrace x = c.made(1, 2, 8);
            c.tell(x, READY, 0, -1, 4, RUN, 0, -1, 4, LOCK, 0, 0, 4, READY, 1, -1, 4, RUN, 1, -1, 4, WANT, 1, 0, 4, LOST, -1, -1, 4);
            sums(x, 0, 0, 0, 0, 0, 0, 0);
            sums(x, 1, 0, 0, 0, 0, 0, 0);
        });
        c.test(10, "a TASK that is RUNNING counts as RUNNING only if it isn't IN, else as READY", "ahead of, in and behind an interrupt", () -> {
            TaskTrace x = c.made(1, 1, 8);
            c.tell(x, READY, 0, -1, 0, RUN, 0, -1, 1, IN, -1, -1, 3, OUT, -1, -1, 7, BLOCK, 0, -1, 15, SEND, -1, 0, 31);
            sums(x, 0, 16, 1 + 4, 2 + 8, 0, 0, 31);
        });
        c.test(10, "a TASK that is RUNNING counts as RUNNING only if it isn't IN, else as READY", "other states stay while IN", () -> {
            TaskTrace x = c.made(1, 3, 8);
            c.tell(x, READY, 0, -1, 0, RUN, 0, -1, 0, LOCK, 0, 0, 0, READY, 1, -1, 0, RUN, 1, -1, 0, WANT, 1, 0, 0);
            c.tell(x, IN, -1, -1, 0, OUT, -1, -1, 9);
            sums(x, 0, 0, 9, 0, 0, 0, 9);
            sums(x, 1, 0, 0, 0, 9, 0, 9);
            sums(x, 2, 9, 0, 0, 0, 0, 9);
        });
    }

    private void darkness() {
        c.test(10, "A STRETCH is DARK if the MARK at its end is LOST", "in each state a task counts as UNKNOWN", () -> {
            TaskTrace x = c.made(1, 4, 8);
            c.tell(x, READY, 0, -1, 0, READY, 1, -1, 0, READY, 2, -1, 0, RUN, 0, -1, 0, LOCK, 0, 0, 0, RUN, 1, -1, 0);
            c.tell(x, WANT, 1, 0, 0, RUN, 0, -1, 0, LOST, -1, -1, 6);
            for (int t = 0; t < 4; t++) {
                sums(x, t, 0, 0, 0, 0, 6, 6);
            }
        });
        c.test(10, "A STRETCH is DARK if the MARK at its end is LOST", "only the one stretch ahead of it", () -> {
            TaskTrace x = c.made(1, 1, 8);
            c.tell(x, READY, 0, -1, 0, RUN, 0, -1, 2, SEND, -1, 0, 5, LOST, -1, -1, 9);
            sums(x, 0, 0, 2, 3, 0, 4, 9);
        });
        c.test(10, "or the processor's CURRENT TASK is UNKNOWN in it", "up to the first RUN, though tasks are known", () -> {
            TaskTrace x = c.made(1, 2, 8);
            c.tell(x, LOST, -1, -1, 0, READY, 0, -1, 1, IN, -1, -1, 3, OUT, -1, -1, 6, RUN, 0, -1, 10, SEND, -1, 0, 15);
            sums(x, 0, 0, 0, 5, 0, 10, 15);
        });
        c.test(10, "In a DARK STRETCH each TASK of the processor counts as UNKNOWN", "one of another HOME doesn't", () -> {
            TaskTrace x = c.made(2, 2, 8);
            c.due("home", x.home(1, 1), 0);
            c.tellOn(x, 1, READY, 1, -1, 0, SEND, -1, 0, 8);
            c.tell(x, SEND, -1, 1, 0, LOST, -1, -1, 8);
            sums(x, 0, 0, 0, 0, 0, 8, 8);
            sums(x, 1, 0, 8, 0, 0, 0, 8);
        });
        c.test(10, "In a DARK STRETCH each TASK of the processor counts as UNKNOWN", "one that is UNKNOWN itself counts so in the light too", () -> {
            TaskTrace x = c.made(1, 2, 8);
            c.tell(x, LOST, -1, -1, 0, RUN, 0, -1, 1, SEND, -1, 0, 3, BLOCK, 0, -1, 7, SEND, -1, 1, 15);
            sums(x, 0, 8, 0, 6, 0, 1, 15);
            sums(x, 1, 0, 0, 0, 0, 15, 15);
        });
    }

    private void sumRefusals() {
        c.test(10, "NONE: no such TASK, what", "a task below 0 or from T on", () -> {
            TaskTrace x = c.made(1, 3, 8);
            for (int task : new int[] {-1, MIN, 3, 8, MAX}) {
                c.due("sum(" + task + ", 0)", x.sum(task, 0), NONE);
            }
        });
        c.test(10, "NONE: no such TASK, what", "what below 0 or above 5", () -> {
            TaskTrace x = c.made(1, 3, 8);
            for (int what : new int[] {-1, MIN, 6, MAX}) {
                c.due("sum(0, " + what + ")", x.sum(0, what), NONE);
            }
        });
    }

    // ---- promise 11

    private void busies(TaskTrace x, int processor, int... due) {
        for (int what = 0; what < due.length; what++) {
            c.due("busy(" + processor + ", " + what + ")", x.busy(processor, what), due[what]);
        }
    }

    private void busy() {
        c.test(11, "the processor is IN, or has its CURRENT TASK, or does nothing", "each of them, of one trace", () -> {
            TaskTrace x = c.made(1, 1, 8);
            c.tell(x, READY, 0, -1, 0, RUN, 0, -1, 1, BLOCK, 0, -1, 3, IN, -1, -1, 7, OUT, -1, -1, 15, SEND, -1, 0, 31);
            busies(x, 0, 1 + 4 + 16, 8, 2, 0);
        });
        c.test(11, "2 has a CURRENT TASK (not IN)", "IN with a CURRENT TASK is 1", () -> {
            TaskTrace x = c.made(1, 1, 8);
            c.tell(x, READY, 0, -1, 0, RUN, 0, -1, 0, IN, -1, -1, 5, OUT, -1, -1, 8, SEND, -1, 0, 9);
            busies(x, 0, 0, 3, 6, 0);
        });
        c.test(11, "and so does the processor", "dark while IN, while a task is CURRENT, while nothing is done", () -> {
            TaskTrace x = c.made(1, 1, 8);
            c.tell(x, SEND, -1, 0, 0, LOST, -1, -1, 1, RUN, 0, -1, 1, LOST, -1, -1, 3, RUN, 0, -1, 3, IN, -1, -1, 3, LOST, -1, -1, 7);
            busies(x, 0, 0, 0, 0, 7);
            c.tell(x, IN, -1, -1, 7, SEND, -1, 1, 15);
            busies(x, 0, 0, 0, 0, 15);
        });
        c.test(11, "How long a processor: what 0 does nothing", "without marks, and with one alone", () -> {
            TaskTrace x = c.made(2, 1, 8);
            busies(x, 1, 0, 0, 0, 0);
            c.tellOn(x, 1, LOST, -1, -1, 9);
            busies(x, 1, 0, 0, 0, 0);
        });
        c.test(11, "NONE: no such processor, what", "a processor below 0 or from P on", () -> {
            TaskTrace x = c.made(2, 1, 8);
            for (int processor : new int[] {-1, MIN, 2, 3, MAX}) {
                c.due("busy(" + processor + ", 0)", x.busy(processor, 0), NONE);
            }
        });
        c.test(11, "NONE: no such processor, what", "what below 0 or above 3", () -> {
            TaskTrace x = c.made(2, 1, 8);
            for (int what : new int[] {-1, MIN, 4, MAX}) {
                c.due("busy(0, " + what + ")", x.busy(0, what), NONE);
            }
        });
    }

    // ---- promise 12

    private void waitsAre(TaskTrace x, int task, int... due) {
        for (int what = 0; what < due.length; what++) {
            c.due("wait(" + task + ", " + what + ")", x.wait(task, what), due[what]);
        }
    }

    /** Task 1 is READY for 6 while task 0, of another rank, is CURRENT. */
    private TaskTrace oneWaits(int rank, int runner) {
        TaskTrace x = c.made(1, 2, 8);
        c.due("rank", x.rank(1, rank), 0);
        c.due("rank", x.rank(0, runner), 0);
        c.tell(x, READY, 0, -1, 0, READY, 1, -1, 0, RUN, 0, -1, 0, SEND, -1, 0, 6);
        return x;
    }

    private void waits() {
        c.test(12, "1 with a RANK above t's", "by one, and by all", () -> {
            waitsAre(oneWaits(4, 5), 1, 0, 6, 0, 0, 0);
            waitsAre(oneWaits(0, 15), 1, 0, 6, 0, 0, 0);
        });
        c.test(12, "2 the same one", "the least and the greatest", () -> {
            waitsAre(oneWaits(0, 0), 1, 0, 0, 6, 0, 0);
            waitsAre(oneWaits(15, 15), 1, 0, 0, 6, 0, 0);
        });
        c.test(12, "3 below it", "by one, and by all", () -> {
            waitsAre(oneWaits(5, 4), 1, 0, 0, 0, 6, 0);
            waitsAre(oneWaits(15, 0), 1, 0, 0, 0, 6, 0);
        });
        c.test(12, "4 there is none", "at first, and behind a BLOCK", () -> {
            TaskTrace x = c.made(1, 2, 8);
            c.tell(x, READY, 1, -1, 0, READY, 0, -1, 1, RUN, 0, -1, 3, BLOCK, 0, -1, 7, SEND, -1, 0, 15);
            waitsAre(x, 1, 0, 0, 4, 0, 3 + 8);
        });
        c.test(12, "0 by the interrupt, if it is IN", "ahead of the CURRENT TASK, and ahead of none", () -> {
            TaskTrace x = oneWaits(3, 9);
            c.tell(x, IN, -1, -1, 6, OUT, -1, -1, 14);
            waitsAre(x, 1, 8, 6, 0, 0, 0);
            TaskTrace y = c.made(1, 2, 8);
            c.tell(y, READY, 1, -1, 0, IN, -1, -1, 0, OUT, -1, -1, 5);
            waitsAre(y, 1, 5, 0, 0, 0, 0);
        });
        c.test(12, "0 by the interrupt, if it is IN", "the one that is RUNNING waits for it too", () -> {
            TaskTrace x = oneWaits(3, 9);
            c.tell(x, IN, -1, -1, 6, OUT, -1, -1, 14);
            waitsAre(x, 0, 8, 0, 0, 0, 0);
        });
        c.test(12, "WAITS of a TASK t in a STRETCH that isn't DARK", "a dark one doesn't count, by LOST or by an UNKNOWN CURRENT TASK", () -> {
            TaskTrace x = oneWaits(3, 9);
            c.tell(x, LOST, -1, -1, 14, READY, 1, -1, 14, SEND, -1, 1, 30);
            waitsAre(x, 1, 0, 6, 0, 0, 0);
        });
        c.test(12, "when it counts as READY", "not while IDLE, RUNNING, WANTING or UNKNOWN", () -> {
            TaskTrace x = c.made(1, 4, 8);
            c.tell(x, LOST, -1, -1, 0, RUN, 0, -1, 0, LOCK, 0, 0, 0, RUN, 1, -1, 0, WANT, 1, 0, 0, RUN, 0, -1, 0, BLOCK, 0, -1, 0);
            c.tell(x, RUN, 2, -1, 0, SEND, -1, 0, 9);
            for (int t = 0; t < 4; t++) {
                waitsAre(x, t, 0, 0, 0, 0, 0);
            }
        });
    }

    private void waitRefusals() {
        c.test(12, "NONE: no such TASK, what", "a task below 0 or from T on", () -> {
            TaskTrace x = c.made(1, 3, 8);
            for (int task : new int[] {-1, MIN, 3, 8, MAX}) {
                c.due("wait(" + task + ", 0)", x.wait(task, 0), NONE);
            }
        });
        c.test(12, "NONE: no such TASK, what", "what below 0 or above 4", () -> {
            TaskTrace x = c.made(1, 3, 8);
            for (int what : new int[] {-1, MIN, 5, MAX}) {
                c.due("wait(0, " + what + ")", x.wait(0, what), NONE);
            }
        });
    }

    // ---- promise 13

    private void heldIs(TaskTrace x, int task, int... due) {
        for (int what = 0; what < due.length; what++) {
            c.due("held(" + task + ", " + what + ")", x.held(task, what), due[what]);
        }
    }

    /** Task 1 (rank 5) is WANTING LOCK 0 from time 0 on; task 0 holds it and is READY; task 2 is READY; none is CURRENT. */
    private TaskTrace oneIsHeld(int holderRank, int thirdRank) {
        TaskTrace x = c.made(1, 4, 8);
        c.due("rank", x.rank(0, holderRank), 0);
        c.due("rank", x.rank(1, 5), 0);
        c.due("rank", x.rank(2, thirdRank), 0);
        c.tell(x, READY, 0, -1, 0, READY, 1, -1, 0, READY, 2, -1, 0, RUN, 0, -1, 0, LOCK, 0, 0, 0, RUN, 1, -1, 0, WANT, 1, 0, 0);
        return x;
    }

    private void heldFirst() {
        c.test(13, "0 it is IN", "ahead of the holder that is CURRENT", () -> {
            TaskTrace x = oneIsHeld(0, 0);
            c.tell(x, RUN, 0, -1, 0, IN, -1, -1, 0, OUT, -1, -1, 7);
            heldIs(x, 1, 7, 0, 0, 0, 0, 0, 0);
        });
        c.test(13, "but 6 is asked right behind 0", "IN goes ahead of a LOCK that is held by none", () -> {
            TaskTrace x = oneIsHeld(0, 0);
            c.tell(x, RUN, 0, -1, 0, FREE, 0, 0, 0, IN, -1, -1, 0, OUT, -1, -1, 7);
            heldIs(x, 1, 7, 0, 0, 0, 0, 0, 0);
        });
        c.test(13, "but 6 is asked right behind 0", "it goes ahead of the CURRENT TASK, whatever its RANK, and of none", () -> {
            TaskTrace x = oneIsHeld(0, 9);
            c.tell(x, RUN, 0, -1, 0, FREE, 0, 0, 0, RUN, 2, -1, 2, BLOCK, 2, -1, 6, SEND, -1, 0, 14);
            heldIs(x, 1, 0, 0, 0, 0, 0, 0, 2 + 4 + 8);
        });
        c.test(13, "else 1 h is CURRENT", "whatever its RANK", () -> {
            for (int rank : new int[] {0, 5, 15}) {
                TaskTrace x = oneIsHeld(rank, 0);
                c.tell(x, RUN, 0, -1, 0, SEND, -1, 0, 7);
                heldIs(x, 1, 0, 7, 0, 0, 0, 0, 0);
            }
        });
        c.test(13, "2 h is WANTING itself", "ahead of a CURRENT TASK of any RANK, and of none", () -> {
            for (int rank : new int[] {0, 5, 15}) {
                TaskTrace x = oneIsHeld(0, rank);
                c.tell(x, RUN, 2, -1, 0, LOCK, 2, 3, 0, RUN, 0, -1, 0, WANT, 0, 3, 0, RUN, 2, -1, 1, BLOCK, 2, -1, 3, SEND, -1, 0, 7);
                heldIs(x, 1, 0, 0, 7, 0, 0, 0, 0);
            }
        });
        c.test(13, "5 there is none", "the holder READY, and IDLE", () -> {
            TaskTrace x = oneIsHeld(0, 0);
            c.tell(x, RUN, 0, -1, 4, BLOCK, 0, -1, 4, SEND, -1, 0, 12);
            heldIs(x, 1, 0, 0, 0, 0, 0, 4 + 8, 0);
        });
    }

    private void heldByRank() {
        c.test(13, "3 the CURRENT TASK has a RANK that isn't below t's", "the same one, and one above", () -> {
            for (int rank : new int[] {5, 6, 15}) {
                TaskTrace x = oneIsHeld(0, rank);
                c.tell(x, RUN, 2, -1, 0, SEND, -1, 0, 7);
                heldIs(x, 1, 0, 0, 0, 7, 0, 0, 0);
            }
        });
        c.test(13, "4 the CURRENT TASK has a RANK below t's (INVERSION)", "by one, and by all", () -> {
            for (int rank : new int[] {4, 0}) {
                TaskTrace x = oneIsHeld(0, rank);
                c.tell(x, RUN, 2, -1, 0, SEND, -1, 0, 7);
                heldIs(x, 1, 0, 0, 0, 0, 7, 0, 0);
            }
        });
        c.test(13, "3 the CURRENT TASK has a RANK that isn't below t's", "TASK 0 is CURRENT, and one of another number holds the LOCK", () -> {
            TaskTrace x = c.made(1, 3, 8);
            c.tell(x, READY, 0, -1, 0, READY, 1, -1, 0, READY, 2, -1, 0, RUN, 2, -1, 0, LOCK, 2, 0, 0, RUN, 1, -1, 0, WANT, 1, 0, 0);
            c.tell(x, RUN, 0, -1, 0, SEND, -1, 0, 7);
            heldIs(x, 1, 0, 0, 0, 7, 0, 0, 0);
            c.due("rank", x.rank(1, 1), 0);
            heldIs(x, 1, 0, 0, 0, 0, 7, 0, 0);
        });
        c.test(13, "4 the CURRENT TASK has a RANK below t's (INVERSION)", "the holder's RANK is not asked", () -> {
            TaskTrace x = oneIsHeld(15, 4);
            c.tell(x, RUN, 2, -1, 0, SEND, -1, 0, 7);
            heldIs(x, 1, 0, 0, 0, 0, 7, 0, 0);
        });
        c.test(13, "How long a TASK counts as WANTING by what", "a dark stretch doesn't count", () -> {
            TaskTrace x = oneIsHeld(0, 0);
            c.tell(x, RUN, 2, -1, 3, LOST, -1, -1, 9, SEND, -1, 0, 20);
            heldIs(x, 1, 0, 0, 0, 0, 0, 3, 0);
        });
        c.test(13, "How long a TASK counts as WANTING by what", "no more once it has the LOCK", () -> {
            TaskTrace x = oneIsHeld(0, 0);
            c.tell(x, RUN, 0, -1, 2, FREE, 0, 0, 6, LOCK, 1, 0, 14, SEND, -1, 0, 30);
            heldIs(x, 1, 0, 4, 0, 0, 0, 2, 8);
            heldIs(x, 0, 0, 0, 0, 0, 0, 0, 0);
        });
    }

    private void heldRefusals() {
        c.test(13, "NONE: no such TASK, what", "a task below 0 or from T on", () -> {
            TaskTrace x = c.made(1, 3, 8);
            for (int task : new int[] {-1, MIN, 3, 8, MAX}) {
                c.due("held(" + task + ", 0)", x.held(task, 0), NONE);
            }
        });
        c.test(13, "NONE: no such TASK, what", "what below 0 or above 6", () -> {
            TaskTrace x = c.made(1, 3, 8);
            for (int what : new int[] {-1, MIN, 7, MAX}) {
                c.due("held(0, " + what + ")", x.held(0, what), NONE);
            }
        });
    }

    // ---- promise 14

    private void chain() {
        c.test(14, "1 if the holder is not WANTING", "it is READY, CURRENT, IDLE", () -> {
            TaskTrace x = oneIsHeld(0, 0);
            c.tell(x, RUN, 0, -1, 1, BLOCK, 0, -1, 2, SEND, -1, 0, 3);
            c.due("chain", x.chain(1), 1);
        });
        c.test(14, "or there is none", "the LOCK is held by none", () -> {
            TaskTrace x = c.made(1, 2, 8);
            c.tell(x, READY, 0, -1, 0, READY, 1, -1, 0, RUN, 0, -1, 0, LOCK, 0, 0, 0, RUN, 1, -1, 0, LOCK, 1, 1, 0, RUN, 0, -1, 0);
            c.tell(x, WANT, 0, 1, 0);
            c.due("no stretch yet", x.chain(0), 0);
            c.tell(x, RUN, 1, -1, 0, FREE, 1, 1, 0, SEND, -1, 0, 4);
            c.due("chain", x.chain(0), 1);
        });
        c.test(14, "else 1 more than the holder's", "one behind another, as long as four LOCKS allow", () -> {
            TaskTrace x = c.made(1, 5, 8);
            for (int t = 0; t < 4; t++) {
                c.tell(x, READY, t, -1, 0, RUN, t, -1, 0, LOCK, t, t, 0);
            }
            for (int t = 1; t < 4; t++) {
                c.tell(x, RUN, t, -1, 0, WANT, t, t - 1, 0);
            }
            c.tell(x, READY, 4, -1, 0, RUN, 4, -1, 0, WANT, 4, 3, 0, SEND, -1, 0, 1);
            for (int t = 0; t < 5; t++) {
                c.due("chain(" + t + ")", x.chain(t), t);
            }
        });
        c.test(14, "(also one of length 0)", "the only stretch it is WANTING in", () -> {
            TaskTrace x = oneIsHeld(0, 0);
            c.due("the last MARK has no stretch", x.chain(1), 0);
            c.tell(x, SEND, -1, 0, 0);
            c.due("one of length 0", x.chain(1), 1);
        });
        c.test(14, "The greatest CHAIN of a TASK in a STRETCH in which it counts as WANTING", "it was longer once", () -> {
            TaskTrace x = oneIsHeld(0, 0);
            c.tell(x, RUN, 2, -1, 0, LOCK, 2, 1, 0, RUN, 0, -1, 0, WANT, 0, 1, 0, RUN, 2, -1, 0, FREE, 2, 1, 0, LOCK, 0, 1, 0);
            c.tell(x, SEND, -1, 0, 9);
            c.due("2 in stretches of length 0, then 1", x.chain(1), 2);
        });
        c.test(14, "The greatest CHAIN of a TASK in a STRETCH in which it counts as WANTING", "it doesn't in a dark one", () -> {
            TaskTrace x = oneIsHeld(0, 0);
            c.tell(x, LOST, -1, -1, 9);
            c.due("chain", x.chain(1), 0);
        });
        c.test(14, "0: there is none", "a task that never wanted, and a trace without marks", () -> {
            c.due("without marks", c.made(1, 1, 8).chain(0), 0);
            TaskTrace x = oneIsHeld(0, 0);
            c.tell(x, SEND, -1, 0, 1);
            c.due("the holder", x.chain(0), 0);
        });
        c.test(14, "NONE: no such TASK", "below 0 or from T on", () -> {
            TaskTrace x = c.made(1, 3, 8);
            for (int task : new int[] {-1, MIN, 3, 8, MAX}) {
                c.due("chain(" + task + ")", x.chain(task), NONE);
            }
        });
    }

    private void chainsThatNeverEnd() {
        c.test(14, "9 if this never ends", "two that want each other's LOCK, while IN too", () -> {
            TaskTrace x = c.made(1, 2, 8);
            c.tell(x, READY, 0, -1, 0, RUN, 0, -1, 0, LOCK, 0, 0, 0, READY, 1, -1, 0, RUN, 1, -1, 0, LOCK, 1, 1, 0);
            c.tell(x, WANT, 1, 0, 0, RUN, 0, -1, 0, WANT, 0, 1, 0, IN, -1, -1, 0);
            c.due("chain(0)", x.chain(0), 9);
            c.due("chain(1) is so only behind the last WANT", x.chain(1), 9);
        });
        c.test(14, "9 if this never ends", "four in a round, and one that leads into it", () -> {
            TaskTrace x = c.made(1, 5, 8);
            for (int t = 0; t < 4; t++) {
                c.tell(x, READY, t, -1, 0, RUN, t, -1, 0, LOCK, t, t, 0);
            }
            c.tell(x, WANT, 3, 0, 0);
            for (int t = 0; t < 3; t++) {
                c.tell(x, RUN, t, -1, 0, WANT, t, t + 1, 0);
            }
            c.tell(x, READY, 4, -1, 0, RUN, 4, -1, 0, WANT, 4, 2, 0, SEND, -1, 0, 0);
            for (int t = 0; t < 5; t++) {
                c.due("chain(" + t + ")", x.chain(t), 9);
            }
        });
    }

    // ---- promise 15

    private void jobs() {
        c.test(15, "from a MARK READY t up to the next BLOCK t", "a READY without a BLOCK is none yet", () -> {
            TaskTrace x = c.made(1, 1, 8);
            c.due("without marks", x.jobs(0), 0);
            c.tell(x, READY, 0, -1, 0);
            c.due("READY alone", x.jobs(0), 0);
            c.tell(x, RUN, 0, -1, 0);
            c.due("and RUN", x.jobs(0), 0);
            c.tell(x, BLOCK, 0, -1, 0);
            c.due("and BLOCK, all at one time", x.jobs(0), 1);
        });
        c.test(15, "from a MARK READY t up to the next BLOCK t", "a BLOCK without a READY is none", () -> {
            TaskTrace x = c.made(1, 1, 8);
            c.tell(x, LOST, -1, -1, 0, RUN, 0, -1, 0, BLOCK, 0, -1, 5);
            c.due("jobs", x.jobs(0), 0);
        });
        c.test(15, "from a MARK READY t up to the next BLOCK t", "marks of other tasks don't matter", () -> {
            TaskTrace x = c.made(2, 3, 8);
            c.due("home", x.home(2, 1), 0);
            c.tell(x, READY, 0, -1, 0, READY, 1, -1, 0, RUN, 1, -1, 0, BLOCK, 1, -1, 2, READY, 1, -1, 3, RUN, 0, -1, 4, BLOCK, 0, -1, 5);
            c.tellOn(x, 1, LOST, -1, -1, 1);
            c.due("of 0", x.jobs(0), 1);
            c.due("of 1", x.jobs(1), 1);
            c.due("of 2", x.jobs(2), 0);
        });
        c.test(15, "How many JOBS a TASK has", "as many as 200 marks can hold", () -> {
            TaskTrace x = c.made(1, 1, 8);
            for (int i = 0; i < 66; i++) {
                c.tell(x, READY, 0, -1, i, RUN, 0, -1, i, BLOCK, 0, -1, i);
            }
            c.due("jobs", x.jobs(0), 66);
            c.due("the last one's time", x.job(0, 65, 0), 65);
            c.due("again", x.again(0, 65), 65);
        });
        c.test(15, "NONE: no such TASK", "below 0 or from T on", () -> {
            TaskTrace x = c.made(1, 3, 8);
            for (int task : new int[] {-1, MIN, 3, 8, MAX}) {
                c.due("jobs(" + task + ")", x.jobs(task), NONE);
            }
        });
    }

    private void jobsAndDarkness() {
        c.test(15, "if between them t is never UNKNOWN", "a LOST while READY", () -> {
            TaskTrace x = c.made(1, 1, 8);
            c.tell(x, READY, 0, -1, 0, LOST, -1, -1, 0, RUN, 0, -1, 0, BLOCK, 0, -1, 0);
            c.due("jobs", x.jobs(0), 0);
        });
        c.test(15, "if between them t is never UNKNOWN", "a LOST while RUNNING", () -> {
            TaskTrace x = c.made(1, 1, 8);
            c.tell(x, READY, 0, -1, 0, RUN, 0, -1, 0, LOST, -1, -1, 1, RUN, 0, -1, 2, BLOCK, 0, -1, 3);
            c.due("jobs", x.jobs(0), 0);
        });
        c.test(15, "if between them t is never UNKNOWN", "UNKNOWN ahead of its READY doesn't matter", () -> {
            TaskTrace x = c.made(1, 2, 8);
            c.tell(x, LOST, -1, -1, 0, RUN, 1, -1, 1, READY, 0, -1, 2, RUN, 0, -1, 3, BLOCK, 0, -1, 4);
            c.due("jobs", x.jobs(0), 1);
        });
        c.test(15, "if between them t is never UNKNOWN", "a LOST right behind its BLOCK doesn't matter", () -> {
            TaskTrace x = c.made(1, 1, 8);
            c.tell(x, READY, 0, -1, 0, RUN, 0, -1, 1, BLOCK, 0, -1, 4, LOST, -1, -1, 4);
            c.due("jobs", x.jobs(0), 1);
        });
        c.test(15, "(also not counting as that in a DARK STRETCH)", "READY while the CURRENT TASK is UNKNOWN", () -> {
            TaskTrace x = c.made(1, 1, 8);
            c.tell(x, LOST, -1, -1, 0, READY, 0, -1, 1, RUN, 0, -1, 2, BLOCK, 0, -1, 3);
            c.due("jobs", x.jobs(0), 0);
        });
        c.test(15, "(also not counting as that in a DARK STRETCH)", "a dark stretch of length 0 is one too", () -> {
            TaskTrace x = c.made(1, 1, 8);
            c.tell(x, LOST, -1, -1, 0, READY, 0, -1, 2, RUN, 0, -1, 2, BLOCK, 0, -1, 3);
            c.due("jobs", x.jobs(0), 0);
        });
        c.test(15, "and no other READY t is", "the READY behind the LOST has the BLOCK", () -> {
            TaskTrace x = c.made(1, 2, 8);
            c.tell(x, READY, 0, -1, 0, LOST, -1, -1, 1, RUN, 1, -1, 2, READY, 0, -1, 3, RUN, 0, -1, 5, BLOCK, 0, -1, 9);
            c.due("jobs", x.jobs(0), 1);
            c.due("its time", x.job(0, 0, 0), 3);
        });
        c.test(15, "numbered from 0", "what is no JOB takes no number", () -> {
            TaskTrace x = c.made(1, 2, 8);
            c.tell(x, READY, 0, -1, 0, RUN, 0, -1, 0, BLOCK, 0, -1, 1, READY, 0, -1, 2, LOST, -1, -1, 3, RUN, 0, -1, 4, BLOCK, 0, -1, 5);
            c.tell(x, READY, 0, -1, 6, RUN, 0, -1, 6, BLOCK, 0, -1, 7);
            c.due("jobs", x.jobs(0), 2);
            c.due("the first", x.job(0, 0, 0), 0);
            c.due("the second", x.job(0, 1, 0), 6);
        });
    }

    // ---- promise 16

    private void jobIs(TaskTrace x, int task, int i, int... due) {
        for (int what = 0; what < due.length; what++) {
            c.due("job(" + task + ", " + i + ", " + what + ")", x.job(task, i, what), due[what]);
        }
    }

    private void job() {
        c.test(16, "RESPONSE: the TIMES' difference", "a JOB of length 0", () -> {
            TaskTrace x = c.made(1, 1, 8);
            c.tell(x, READY, 0, -1, 9, RUN, 0, -1, 9, BLOCK, 0, -1, 9);
            jobIs(x, 0, 0, 9, 9, 0, 0, 0);
        });
        c.test(16, "RESPONSE: the TIMES' difference", "over a wrap of the clock, and the greatest there is", () -> {
            TaskTrace x = c.made(1, 1, 4);
            c.tell(x, READY, 0, -1, 15, RUN, 0, -1, 14, BLOCK, 0, -1, 13);
            jobIs(x, 0, 0, 15, 45, 30, 15, 0);
            TaskTrace y = c.made(1, 1, 16);
            c.tell(y, READY, 0, -1, 1, RUN, 0, -1, 0);
            for (int i = 0; i < 197; i++) {
                c.due("mark", y.mark(0, Desk.SEND + i / 64, -1, i % 64, -1 - i & 65535), 2 + i);
            }
            c.tell(y, BLOCK, 0, -1, -198 & 65535);
            jobIs(y, 0, 0, 1, 1 + 199 * 65535, 199 * 65535, 198 * 65535, 0);
        });
        c.test(16, "DEMAND: how long t counts as RUNNING in it", "without the interrupts and without waits", () -> {
            TaskTrace x = c.made(1, 2, 8);
            c.tell(x, READY, 0, -1, 0, RUN, 0, -1, 1, IN, -1, -1, 3, OUT, -1, -1, 7, READY, 1, -1, 7, RUN, 1, -1, 15, BLOCK, 1, -1, 31);
            c.tell(x, RUN, 0, -1, 31, BLOCK, 0, -1, 63);
            jobIs(x, 0, 0, 0, 63, 63, 2 + 8 + 32, 0);
        });
        c.test(16, "4 how long it counts as WANTING in it", "twice in one JOB, also while IN", () -> {
            TaskTrace x = c.made(1, 2, 8);
            c.tell(x, READY, 1, -1, 0, RUN, 1, -1, 0, LOCK, 1, 0, 0, LOCK, 1, 1, 0, READY, 0, -1, 0, RUN, 0, -1, 0);
            c.tell(x, WANT, 0, 0, 1, RUN, 1, -1, 3, FREE, 1, 0, 3, IN, -1, -1, 3, OUT, -1, -1, 7, LOCK, 0, 0, 7, RUN, 0, -1, 15);
            c.tell(x, WANT, 0, 1, 31, RUN, 1, -1, 31, FREE, 1, 1, 31, LOCK, 0, 1, 63, RUN, 0, -1, 63, BLOCK, 0, -1, 127);
            jobIs(x, 0, 0, 0, 127, 127, 1 + 16 + 64, 2 + 4 + 32);
        });
        c.test(16, "4 how long it counts as WANTING in it", "what was ahead of its READY isn't in it", () -> {
            TaskTrace x = c.made(1, 1, 8);
            c.tell(x, READY, 0, -1, 0, RUN, 0, -1, 0, BLOCK, 0, -1, 4, READY, 0, -1, 5, RUN, 0, -1, 7, BLOCK, 0, -1, 15);
            jobIs(x, 0, 0, 0, 4, 4, 4, 0);
            jobIs(x, 0, 1, 5, 15, 10, 8, 0);
        });
        c.test(16, "NONE: there is none, no such what", "a task below 0 or from T on", () -> {
            TaskTrace x = twoJobs();
            for (int task : new int[] {-1, MIN, 3, 8, MAX}) {
                c.due("job(" + task + ", 0, 0)", x.job(task, 0, 0), NONE);
            }
        });
        c.test(16, "NONE: there is none, no such what", "i below 0 or from the number of JOBS on", () -> {
            TaskTrace x = twoJobs();
            for (int i : new int[] {-1, MIN, 2, MAX}) {
                c.due("job(0, " + i + ", 0)", x.job(0, i, 0), NONE);
            }
            c.due("the last", x.job(0, 1, 0), 5);
            c.due("of a task without JOBS", x.job(1, 0, 0), NONE);
        });
        c.test(16, "NONE: there is none, no such what", "what below 0 or above 4", () -> {
            TaskTrace x = twoJobs();
            for (int what : new int[] {-1, MIN, 5, MAX}) {
                c.due("job(0, 0, " + what + ")", x.job(0, 0, what), NONE);
            }
        });
    }

    /** Task 0 of three has JOBS with RESPONSES 3 and 4. */
    private TaskTrace twoJobs() {
        TaskTrace x = c.made(1, 3, 8);
        c.tell(x, READY, 0, -1, 1, RUN, 0, -1, 1, BLOCK, 0, -1, 4, READY, 0, -1, 5, RUN, 0, -1, 5, BLOCK, 0, -1, 9);
        return x;
    }

    // ---- promises 17 and 18

    /** Task 0 has JOBS with these RESPONSES. */
    private TaskTrace responses(int... lengths) {
        TaskTrace x = c.made(1, 2, 8);
        int clock = 0;
        for (int length : lengths) {
            c.tell(x, READY, 0, -1, clock & 255, RUN, 0, -1, clock & 255, BLOCK, 0, -1, clock + length & 255);
            clock += length;
        }
        return x;
    }

    private void worst() {
        c.test(17, "The first JOB of a TASK with the greatest RESPONSE", "the first, one between, the last", () -> {
            c.due("first", responses(9, 8, 7).worst(0), 0);
            c.due("between", responses(7, 9, 8).worst(0), 1);
            c.due("last", responses(7, 8, 9).worst(0), 2);
        });
        c.test(17, "The first JOB of a TASK with the greatest RESPONSE", "of two alike the first", () -> {
            c.due("alike", responses(3, 9, 9, 9, 4).worst(0), 1);
            c.due("all 0", responses(0, 0, 0).worst(0), 0);
        });
        c.test(17, "NONE: no such TASK, or it has none", "without JOBS", () -> {
            c.due("worst(1)", responses(3).worst(1), NONE);
            c.due("without marks", c.made(1, 1, 8).worst(0), NONE);
        });
        c.test(17, "NONE: no such TASK, or it has none", "a task below 0 or from T on", () -> {
            TaskTrace x = twoJobs();
            for (int task : new int[] {-1, MIN, 3, 8, MAX}) {
                c.due("worst(" + task + ")", x.worst(task), NONE);
            }
        });
    }

    private void late() {
        c.test(18, "How many JOBS of a TASK have a RESPONSE above d", "one of d is not above it", () -> {
            TaskTrace x = responses(4, 5, 6);
            c.due("late(0, 3)", x.late(0, 3), 3);
            c.due("late(0, 4)", x.late(0, 4), 2);
            c.due("late(0, 5)", x.late(0, 5), 1);
            c.due("late(0, 6)", x.late(0, 6), 0);
        });
        c.test(18, "How many JOBS of a TASK have a RESPONSE above d", "d 0 with a JOB of length 0, and the greatest d", () -> {
            TaskTrace x = responses(0, 1);
            c.due("late(0, 0)", x.late(0, 0), 1);
            c.due("late(0, MAX)", x.late(0, MAX), 0);
            c.due("of a task without JOBS", x.late(1, 0), 0);
        });
        c.test(18, "NONE: no such TASK, d below 0", "d -1 and less", () -> {
            TaskTrace x = responses(4);
            c.due("late(0, -1)", x.late(0, -1), NONE);
            c.due("late(0, MIN)", x.late(0, MIN), NONE);
            c.due("of a task without JOBS", x.late(1, -1), NONE);
        });
        c.test(18, "NONE: no such TASK, d below 0", "a task below 0 or from T on", () -> {
            TaskTrace x = twoJobs();
            for (int task : new int[] {-1, MIN, 3, 8, MAX}) {
                c.due("late(" + task + ", 0)", x.late(task, 0), NONE);
            }
        });
    }

    // ---- asked again

    /** Begins with nothing done and ends IN, with a LOCK held, one task WANTING and one READY. */
    private TaskTrace endsIn() {
        TaskTrace x = c.made(1, 3, 8);
        c.due("law", x.law(3, 0, 0, 0), 0);
        c.tell(x, SEND, -1, 0, 0, READY, 0, -1, 4, SEND, -1, 1, 5, RUN, 0, -1, 6, BLOCK, 0, -1, 10, READY, 1, -1, 10, RUN, 1, -1, 11);
        c.tell(x, LOCK, 1, 0, 12, READY, 2, -1, 12, RUN, 2, -1, 14, WANT, 2, 0, 15, IN, -1, -1, 18);
        c.due("keep", x.keep(0), 12);
        return x;
    }

    /** Begins with nothing done and ends with a task that is WANTING since the last MARK. */
    private TaskTrace endsWanting() {
        TaskTrace x = c.made(1, 3, 8);
        c.due("law", x.law(3, 0, 0, 0), 0);
        c.tell(x, SEND, -1, 0, 0, READY, 1, -1, 4, RUN, 1, -1, 5, LOCK, 1, 0, 6, READY, 2, -1, 9, RUN, 2, -1, 10, WANT, 2, 0, 12);
        c.due("keep", x.keep(0), 7);
        return x;
    }

    /** Ends with all that is there UNKNOWN. */
    private TaskTrace endsLost() {
        TaskTrace x = endsIn();
        c.tell(x, LOST, -1, -1, 40);
        return x;
    }

    private void sameAgain(int promise, String sentence, ToIntFunction<TaskTrace> question) {
        c.test(promise, sentence, "the same when it is asked again, though the trace ends otherwise than it begins", () -> {
            TaskTrace[] fresh = {endsIn(), endsWanting(), endsLost()};
            TaskTrace[] asked = {endsIn(), endsWanting(), endsLost()};
            for (int i = 0; i < fresh.length; i++) {
                int due = question.applyAsInt(fresh[i]);
                c.due("asked twice", question.applyAsInt(fresh[i]), due);
                c.due("jobs", asked[i].jobs(2), 0);
                c.due("asked behind jobs()", question.applyAsInt(asked[i]), due);
                c.due("again", asked[i].again(2, 0), NONE);
                c.due("asked behind again()", question.applyAsInt(asked[i]), due);
            }
        });
    }

    /** All answers of one task or processor for the whats of a question, as one number. */
    private static int mixed(int whats, IntUnaryOperator answer) {
        int all = 7;
        for (int what = 0; what < whats; what++) {
            all = 31 * all + answer.applyAsInt(what);
        }
        return all;
    }

    private void askedAgain() {
        sameAgain(10, "How long, of its HOME's trace, a TASK counts as what", x -> mixed(18, k -> x.sum(k / 6, k % 6)));
        sameAgain(11, "How long a processor: what 0 does nothing", x -> mixed(4, what -> x.busy(0, what)));
        sameAgain(12, "How long a TASK counts as READY by what", x -> mixed(15, k -> x.wait(k / 5, k % 5)));
        sameAgain(13, "How long a TASK counts as WANTING by what", x -> mixed(21, k -> x.held(k / 7, k % 7)));
        sameAgain(14, "The greatest CHAIN of a TASK", x -> mixed(3, x::chain));
        sameAgain(15, "How many JOBS a TASK has", x -> mixed(3, x::jobs));
        sameAgain(16, "Of a TASK's i-th JOB", x -> mixed(15, k -> x.job(k / 5, 0, k % 5)));
        sameAgain(20, "How many BREAKS of a LAW", x -> x.breaks(0, 0));
        sameAgain(25, "When a TASK's i-th JOB is DONE", x -> mixed(3, t -> x.again(t, 0)));
        sameAgain(31, "less how long it does in the COPY", x -> mixed(18, k -> x.differ(0, k / 6, k % 6)));
        c.test(14, "0: there is none", "of one that is WANTING since the last MARK, behind other questions", () -> {
            TaskTrace x = endsWanting();
            c.due("jobs", x.jobs(2), 0);
            c.due("chain", x.chain(2), 0);
        });
        c.test(16, "DEMAND: how long t counts as RUNNING in it", "of a trace that ends IN, behind other questions", () -> {
            TaskTrace x = endsIn();
            c.due("jobs", x.jobs(0), 1);
            c.due("demand", x.job(0, 0, 3), 4);
        });
        c.test(25, "DONE is the moment its need is filled", "of a trace that ends IN", () -> {
            TaskTrace x = endsIn();
            c.due("need 4 from 4 on", x.again(0, 0), 8);
            c.due("and again", x.again(0, 0), 8);
        });
    }
}
