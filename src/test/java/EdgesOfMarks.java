/** The boundary cases of promises 1 to 9: a new object, begin, homes, ranks, marks and what is told of them. */
final class EdgesOfMarks {
    private static final int READY = Desk.READY, RUN = Desk.RUN, BLOCK = Desk.BLOCK, WANT = Desk.WANT, LOCK = Desk.LOCK;
    private static final int FREE = Desk.FREE, IN = Desk.IN, OUT = Desk.OUT, LOST = Desk.LOST;
    private static final int SEND = Desk.SEND, RECEIVE = Desk.RECEIVE, START = Desk.START, ANSWER = Desk.ANSWER;
    private static final int NONE = Desk.NONE, STARTED = Desk.STARTED, BAD = Desk.BAD, FULL = Desk.FULL, TWICE = Desk.TWICE;
    private static final int MIN = Desk.MIN, MAX = Desk.MAX;

    private final Desk c;

    private EdgesOfMarks(Desk c) {
        this.c = c;
    }

    static void run(Desk desk) {
        EdgesOfMarks edges = new EdgesOfMarks(desk);
        edges.newObject();
        edges.newTasks();
        edges.beginSizes();
        edges.beginAnew();
        edges.home();
        edges.rank();
        edges.other();
        edges.formOfMarks();
        edges.numbersOfMarks();
        edges.readyAndRun();
        edges.blockAndInterrupts();
        edges.want();
        edges.lock();
        edges.free();
        edges.lost();
        edges.letters();
        edges.full();
        edges.orderOfRefusals();
        edges.told();
        edges.timesThatWrap();
        edges.state();
        edges.holder();
    }

    // ---- promise 1

    private void newObject() {
        c.test(1, "P 1 .. 3; 1 at first", "processor 0 alone is there", () -> {
            TaskTrace x = new TaskTrace();
            c.due("count(0)", x.count(0), 1);
            c.due("count(11)", x.count(11), NONE);
            c.due("a mark of processor 1", x.mark(1, IN, -1, -1, 0), NONE);
            c.due("a mark of processor 0", x.mark(0, IN, -1, -1, 0), 0);
        });
        c.test(1, "T 1 .. 8; 2 at first", "tasks 0 and 1 are there", () -> {
            TaskTrace x = new TaskTrace();
            c.due("count(1)", x.count(1), 2);
            c.due("state(1)", x.state(1), 0);
            c.due("state(2)", x.state(2), NONE);
        });
        c.test(1, "CLOCKS have W bits (4 .. 16; 16 at first)", "the greatest clock is 65535", () -> {
            TaskTrace x = new TaskTrace();
            c.due("count(2)", x.count(2), 16);
            c.refused(x, NONE, IN, -1, -1, 65536);
            c.tell(x, IN, -1, -1, 65535);
        });
        c.test(1, "As told in I to VI", "no marks, no laws, and nothing refused yet", () -> {
            TaskTrace x = new TaskTrace();
            c.due("marks in all", x.count(3), 0);
            c.due("laws", x.count(4), 0);
            c.due("refused marks", x.count(5), 0);
            c.due("the host's refusals", x.count(6), 0);
            c.due("marks of processor 0", x.count(10), 0);
        });
        c.test(1, "public static final int NONE = -1, STARTED = -2, BAD = -3, FULL = -4, TWICE = -5, QUARREL = -6, OPEN = -7", "the refusals' numbers", () -> {
            int[] got = {TaskTrace.NONE, TaskTrace.STARTED, TaskTrace.BAD, TaskTrace.FULL, TaskTrace.TWICE, TaskTrace.QUARREL, TaskTrace.OPEN};
            for (int i = 0; i < got.length; i++) {
                c.due("refusal " + i, got[i], -1 - i);
            }
        });
        c.test(1, "public static final int NOTHING = -11, CAST = -12, PLACE = -13, SIZE = -14, THROWN = -15", "the host's refusals' numbers", () -> {
            int[] got = {TaskTrace.NOTHING, TaskTrace.CAST, TaskTrace.PLACE, TaskTrace.SIZE, TaskTrace.THROWN};
            for (int i = 0; i < got.length; i++) {
                c.due("refusal " + i, got[i], -11 - i);
            }
        });
        c.test(1, "An object is used for at most 512 calls after it has been made", "the 512th call answers as the first did", () -> {
            TaskTrace x = new TaskTrace();
            for (int i = 0; i < 200; i++) {
                c.due("mark", x.mark(0, LOST, -1, -1, i), i);
            }
            for (int i = 200; i < 511; i++) {
                c.due("a mark too many", x.mark(0, LOST, -1, -1, 0), FULL);
            }
            c.due("the 512th call", x.count(5), 311);
        });
        c.test(1, "TAPES 0 .. 5 each hold nothing (at first)", "all six of them", () -> {
            TaskTrace x = new TaskTrace();
            for (int d = 0; d < 6; d++) {
                c.due("put on tape " + d, x.put(d, 0, 1), Desk.NOTHING);
                c.due("clear(" + d + ")", x.clear(d), 0);
            }
        });
        c.test(1, "LAWS 0 .. 7", "none is told at first", () -> {
            TaskTrace x = new TaskTrace();
            c.due("breaks(0, 0)", x.breaks(0, 0), NONE);
            c.due("the first law", x.law(3, 0, 0, 0), 0);
        });
        c.test(1, "OFF(0) is 0", "without letters the offs agree", () -> {
            TaskTrace x = new TaskTrace();
            c.due("agree", x.agree(), 1);
            c.due("gap(0, 0, 0)", x.gap(0, 0, 0), 0);
            c.due("gap(0, 0, 1)", x.gap(0, 0, 1), 0);
        });
    }

    private void newTasks() {
        c.test(1, "Each TASK has a HOME (a processor; 0 at first)", "both tasks", () -> {
            TaskTrace x = new TaskTrace();
            c.due("home(0, 0)", x.home(0, 0), 0);
            c.due("home(1, 0)", x.home(1, 0), 0);
            c.tell(x, READY, 0, -1, 0, READY, 1, -1, 0);
        });
        c.test(1, "RANK (0 .. 15, 0 at first", "both tasks", () -> {
            TaskTrace x = new TaskTrace();
            c.due("rank(0, 15)", x.rank(0, 15), 0);
            c.due("rank(1, 15)", x.rank(1, 15), 0);
        });
        c.test(1, "what its RANK is, until it is told", "of a new task that is 0", () -> {
            TaskTrace x = new TaskTrace();
            c.due("other(0, 15)", x.other(0, 15), 0);
            c.due("other(1, 15)", x.other(1, 15), 0);
        });
        c.test(1, "what its RANK is, until it is told", "of a new task whose RANK is told, without begin", () -> {
            TaskTrace x = new TaskTrace();
            c.due("rank", x.rank(0, 6), 0);
            c.due("other", x.other(0, 1), 6);
        });
        c.test(1, "or UNKNOWN (IDLE at first)", "both tasks", () -> {
            TaskTrace x = new TaskTrace();
            c.due("state(0)", x.state(0), 0);
            c.due("state(1)", x.state(1), 0);
        });
        c.test(1, "or that is UNKNOWN (none at first)", "the first stretch isn't dark, and nothing is done in it", () -> {
            TaskTrace x = new TaskTrace();
            c.tell(x, SEND, -1, 0, 5, SEND, -1, 1, 9);
            c.due("does nothing", x.busy(0, 0), 4);
            c.due("unknown", x.busy(0, 3), 0);
        });
        c.test(1, "is IN an interrupt or not (not at first)", "OUT is refused, IN is taken", () -> {
            TaskTrace x = new TaskTrace();
            c.refused(x, BAD, OUT, -1, -1, 0);
            c.tell(x, IN, -1, -1, 0);
        });
        c.test(1, "or by none (at first)", "all four locks", () -> {
            TaskTrace x = new TaskTrace();
            for (int lock = 0; lock < 4; lock++) {
                c.due("holder(0, " + lock + ")", x.holder(0, lock), -2);
            }
        });
        c.test(1, "As told in I to VI", "two objects have nothing in common", () -> {
            TaskTrace x = new TaskTrace();
            TaskTrace y = new TaskTrace();
            c.due("begin", x.begin(3, 8, 4), 3);
            c.due("rank", x.rank(1, 9), 0);
            c.due("tape", x.tape(0, 1, 7), 7);
            c.due("law", x.law(3, 2, 0, 0), 0);
            c.tell(x, SEND, -1, 3, 1);
            c.due("the other's P", y.count(0), 1);
            c.due("the other's marks", y.count(3), 0);
            c.due("the other's laws", y.count(4), 0);
            c.due("the other's tape", y.clear(0), 0);
            c.due("the other's rank", y.rank(1, 0), 0);
            c.due("the other's letter", y.mark(0, SEND, -1, 3, 1), 0);
        });
    }

    // ---- promise 2

    private void beginSizes() {
        c.test(2, "P not 1 .. 3", "0 and less", () -> refusedBegins(new int[][] {{0, 2, 8}, {-1, 2, 8}, {MIN, 2, 8}}));
        c.test(2, "P not 1 .. 3", "4 and more", () -> refusedBegins(new int[][] {{4, 2, 8}, {MAX, 2, 8}}));
        c.test(2, "T not 1 .. 8", "0 and less", () -> refusedBegins(new int[][] {{2, 0, 8}, {2, -1, 8}, {2, MIN, 8}}));
        c.test(2, "T not 1 .. 8", "9 and more", () -> refusedBegins(new int[][] {{2, 9, 8}, {2, MAX, 8}}));
        c.test(2, "W not 4 .. 16", "3 and less", () -> refusedBegins(new int[][] {{2, 2, 3}, {2, 2, 0}, {2, 2, MIN}}));
        c.test(2, "W not 4 .. 16", "17 and more", () -> refusedBegins(new int[][] {{2, 2, 17}, {2, 2, 32}, {2, 2, MAX}}));
        c.test(2, "PROCESSORS 0 .. P - 1", "the least and the greatest P are taken, and have so many", () -> {
            for (int many = 1; many <= 3; many++) {
                TaskTrace x = c.made(many, 1, 4);
                c.due("count(0)", x.count(0), many);
                c.due("the last processor", x.mark(many - 1, IN, -1, -1, 0), 0);
                c.due("one more", x.mark(many, IN, -1, -1, 0), NONE);
            }
        });
        c.test(2, "TASKS 0 .. T - 1", "the least and the greatest T are taken, and have so many", () -> {
            for (int many = 1; many <= 8; many++) {
                TaskTrace x = c.made(1, many, 4);
                c.due("count(1)", x.count(1), many);
                c.due("the last task", x.state(many - 1), 0);
                c.due("one more", x.state(many), NONE);
            }
        });
        c.test(2, "each with a CLOCK (0 .. 2^W - 1)", "each W from the least to the greatest is taken, and has such clocks", () -> {
            for (int bits = 4; bits <= 16; bits++) {
                TaskTrace x = c.made(1, 1, bits);
                c.due("count(2)", x.count(2), bits);
                c.refused(x, NONE, IN, -1, -1, 1 << bits);
                c.tell(x, IN, -1, -1, (1 << bits) - 1);
            }
        });
    }

    private void refusedBegins(int[][] sizes) {
        for (int[] s : sizes) {
            TaskTrace x = c.made(2, 2, 8);
            c.tell(x, IN, -1, -1, 255);
            c.due("begin(" + s[0] + ", " + s[1] + ", " + s[2] + ")", x.begin(s[0], s[1], s[2]), NONE);
            c.due("P stays", x.count(0), 2);
            c.due("T stays", x.count(1), 2);
            c.due("W stays", x.count(2), 8);
            c.due("the mark stays", x.count(3), 1);
        }
    }

    private void beginAnew() {
        c.test(2, "No MARKS and LAWS", "of all processors, also with the same sizes", () -> {
            TaskTrace x = c.made(3, 2, 8);
            for (int p = 0; p < 3; p++) {
                c.tellOn(x, p, SEND, -1, p, 1);
            }
            c.due("law", x.law(3, 0, 0, 0), 0);
            c.due("begin", x.begin(3, 2, 8), 3);
            c.due("marks", x.count(3), 0);
            c.due("laws", x.count(4), 0);
            c.due("breaks", x.breaks(0, 0), NONE);
            c.due("told", x.told(0, 0, 0), NONE);
            c.tellOn(x, 2, SEND, -1, 0, 7);
            c.due("the first time is the clock again", x.told(2, 0, 3), 7);
        });
        c.test(2, "No MARKS and LAWS", "how tasks, locks and processors are begins anew too", () -> {
            TaskTrace x = c.made(1, 2, 8);
            c.tell(x, READY, 0, -1, 0, RUN, 0, -1, 0, LOCK, 0, 3, 0, IN, -1, -1, 0);
            c.due("begin", x.begin(1, 2, 8), 1);
            c.due("state", x.state(0), 0);
            c.due("holder", x.holder(0, 3), -2);
            c.refused(x, BAD, OUT, -1, -1, 0);
            c.tell(x, READY, 1, -1, 0, RUN, 1, -1, 0);
            c.due("none was current", x.state(0), 0);
        });
        c.test(2, "No MARKS and LAWS", "what is unknown begins anew too", () -> {
            TaskTrace x = c.made(1, 2, 8);
            c.tell(x, LOST, -1, -1, 0);
            c.due("begin", x.begin(1, 2, 8), 1);
            c.due("state", x.state(1), 0);
            c.tell(x, SEND, -1, 0, 0, SEND, -1, 1, 4);
            c.due("not dark", x.busy(0, 0), 4);
        });
        c.test(2, "No MARKS and LAWS", "a full processor and a full list of laws", () -> {
            TaskTrace x = c.made(1, 1, 8);
            c.tellLetters(x, 0, 200, 0);
            for (int i = 0; i < 8; i++) {
                c.due("law", x.law(3, 0, 0, 0), i);
            }
            c.due("begin", x.begin(1, 1, 8), 1);
            c.due("mark", x.mark(0, LOST, -1, -1, 0), 0);
            c.due("law", x.law(3, 0, 0, 0), 0);
        });
        c.test(2, "HOMES and RANKS are 0", "of all tasks", () -> {
            TaskTrace x = c.made(3, 8, 8);
            for (int t = 0; t < 8; t++) {
                c.due("home", x.home(t, 2), 0);
                c.due("rank", x.rank(t, 15), 0);
            }
            c.due("begin", x.begin(3, 8, 8), 3);
            for (int t = 0; t < 8; t++) {
                c.due("home", x.home(t, 1), 0);
                c.due("rank", x.rank(t, 1), 0);
            }
        });
        c.test(2, "OTHER RANKS untold", "so each is its RANK again", () -> {
            TaskTrace x = c.made(1, 2, 8);
            c.due("other", x.other(1, 9), 0);
            c.due("begin", x.begin(1, 2, 8), 1);
            c.due("rank", x.rank(1, 4), 0);
            c.due("other", x.other(1, 0), 4);
        });
        c.test(2, "(TAPES stay)", "rows and copies", () -> {
            TaskTrace x = c.made(2, 3, 9);
            c.tellOn(x, 1, IN, -1, -1, 500);
            c.due("tape", x.tape(0, 2, 4), 4);
            c.due("put", x.put(0, 3, -7), 1);
            c.due("keep", x.keep(5), 1);
            c.due("begin", x.begin(1, 1, 4), 1);
            c.due("at", x.at(0, 3), -7);
            c.due("back", x.back(5), 1);
            c.due("P", x.count(0), 2);
            c.due("T", x.count(1), 3);
            c.due("W", x.count(2), 9);
            c.due("time", x.told(1, 0, 3), 500);
        });
    }

    // ---- promises 3, 4 and 5

    private void home() {
        c.test(3, "The HOME of a TASK: the one it had", "told three times, the last task and the last processor", () -> {
            TaskTrace x = c.made(3, 8, 8);
            c.due("first", x.home(7, 2), 0);
            c.due("second", x.home(7, 1), 2);
            c.due("third, the same", x.home(7, 1), 1);
            c.due("a mark there", x.mark(1, READY, 7, -1, 0), 0);
        });
        c.test(3, "NONE: no such TASK, processor", "a task below 0 or from T on", () -> {
            TaskTrace x = c.made(2, 3, 8);
            for (int task : new int[] {-1, MIN, 3, 8, MAX}) {
                c.due("home(" + task + ", 1)", x.home(task, 1), NONE);
            }
        });
        c.test(3, "NONE: no such TASK, processor", "a processor below 0 or from P on", () -> {
            TaskTrace x = c.made(2, 3, 8);
            for (int processor : new int[] {-1, MIN, 2, 3, MAX}) {
                c.due("home(0, " + processor + ")", x.home(0, processor), NONE);
            }
            c.due("the home stays", x.home(0, 0), 0);
        });
        c.test(3, "STARTED: there is a MARK", "one mark of a processor that is neither home", () -> {
            TaskTrace x = c.made(3, 2, 8);
            c.tellOn(x, 2, LOST, -1, -1, 0);
            c.due("home", x.home(0, 1), STARTED);
            c.due("home, the same one", x.home(0, 0), STARTED);
            c.due("the home stays", x.mark(0, READY, 0, -1, 0), 0);
        });
        c.test(3, "STARTED: there is a MARK", "a mark that was refused is none", () -> {
            TaskTrace x = c.made(2, 2, 8);
            c.refused(x, BAD, OUT, -1, -1, 0);
            c.due("home", x.home(0, 1), 0);
        });
        c.test(3, "STARTED: there is a MARK", "no more behind begin and behind back to a copy without marks", () -> {
            TaskTrace x = c.made(2, 2, 8);
            c.due("keep", x.keep(0), 0);
            c.tell(x, IN, -1, -1, 0);
            c.due("started", x.home(1, 1), STARTED);
            c.due("back", x.back(0), 0);
            c.due("home", x.home(1, 1), 0);
            c.tell(x, IN, -1, -1, 0);
            c.due("begin", x.begin(2, 2, 8), 2);
            c.due("home", x.home(1, 1), 0);
        });
        c.test(3, "Of several refusals the one that is named first in a method's words is answered", "NONE ahead of STARTED", () -> {
            TaskTrace x = c.made(2, 2, 8);
            c.tell(x, IN, -1, -1, 0);
            c.due("task", x.home(2, 0), NONE);
            c.due("processor", x.home(0, 2), NONE);
        });
    }

    private void rank() {
        c.test(4, "The RANK of a TASK: the one it had", "the least and the greatest RANK, the last task", () -> {
            TaskTrace x = c.made(1, 8, 8);
            c.due("15", x.rank(7, 15), 0);
            c.due("0", x.rank(7, 0), 15);
            c.due("1", x.rank(7, 1), 0);
            c.due("the others stay", x.rank(6, 1), 0);
        });
        c.test(4, "The RANK of a TASK: the one it had", "also when there are marks: waits are asked by it", () -> {
            TaskTrace x = c.made(1, 2, 8);
            c.tell(x, READY, 0, -1, 0, READY, 1, -1, 0, RUN, 0, -1, 0, SEND, -1, 0, 6);
            c.due("the same rank", x.wait(1, 2), 6);
            c.due("rank", x.rank(0, 1), 0);
            c.due("a rank above", x.wait(1, 1), 6);
            c.due("no more the same", x.wait(1, 2), 0);
        });
        c.test(4, "NONE: no such TASK, RANK", "a task below 0 or from T on", () -> {
            TaskTrace x = c.made(1, 3, 8);
            for (int task : new int[] {-1, MIN, 3, 8, MAX}) {
                c.due("rank(" + task + ", 1)", x.rank(task, 1), NONE);
            }
        });
        c.test(4, "NONE: no such TASK, RANK", "a rank below 0 or above 15", () -> {
            TaskTrace x = c.made(1, 3, 8);
            c.due("rank", x.rank(2, 5), 0);
            for (int rank : new int[] {-1, MIN, 16, MAX}) {
                c.due("rank(2, " + rank + ")", x.rank(2, rank), NONE);
            }
            c.due("it stays", x.rank(2, 0), 5);
        });
    }

    private void other() {
        c.test(5, "The OTHER RANK of a TASK is told: the one it had", "the least and the greatest, the last task", () -> {
            TaskTrace x = c.made(1, 8, 8);
            c.due("15", x.other(7, 15), 0);
            c.due("0", x.other(7, 0), 15);
            c.due("1", x.other(7, 1), 0);
            c.due("the RANK is not it", x.rank(7, 0), 0);
            c.due("the others stay", x.other(6, 1), 0);
        });
        c.test(5, "what its RANK is, until it is told", "it goes with the RANK as long as it is untold", () -> {
            TaskTrace x = c.made(1, 2, 8);
            c.due("rank", x.rank(1, 6), 0);
            c.due("rank", x.rank(1, 7), 6);
            c.due("other", x.other(1, 7), 7);
            c.due("rank", x.rank(1, 3), 7);
            c.due("told, though as the RANK was", x.other(1, 2), 7);
        });
        c.test(5, "NONE: no such TASK, RANK", "a task below 0 or from T on", () -> {
            TaskTrace x = c.made(1, 3, 8);
            for (int task : new int[] {-1, MIN, 3, 8, MAX}) {
                c.due("other(" + task + ", 1)", x.other(task, 1), NONE);
            }
        });
        c.test(5, "NONE: no such TASK, RANK", "a rank below 0 or above 15 leaves it untold", () -> {
            TaskTrace x = c.made(1, 3, 8);
            for (int rank : new int[] {-1, MIN, 16, MAX}) {
                c.due("other(2, " + rank + ")", x.other(2, rank), NONE);
            }
            c.due("rank", x.rank(2, 9), 0);
            c.due("untold", x.other(2, 0), 9);
        });
    }

    // ---- promise 6: forms

    private void formOfMarks() {
        c.test(6, "NONE: no such processor, kind, CLOCK", "a processor below 0 or from P on", () -> {
            TaskTrace x = c.made(2, 1, 8);
            for (int processor : new int[] {-1, MIN, 2, 3, MAX}) {
                c.due("mark(" + processor + ", ..)", x.mark(processor, IN, -1, -1, 0), NONE);
            }
        });
        c.test(6, "NONE: no such processor, kind, CLOCK", "a kind below 0 or above 12", () -> {
            TaskTrace x = c.made(1, 1, 8);
            for (int kind : new int[] {-1, MIN, 13, MAX}) {
                c.refused(x, NONE, kind, 0, -1, 0);
                c.refused(x, NONE, kind, -1, -1, 0);
                c.refused(x, NONE, kind, -1, 0, 0);
            }
        });
        c.test(6, "NONE: no such processor, kind, CLOCK", "a clock below 0, or of W bits and one more", () -> {
            for (int bits : new int[] {4, 9, 16}) {
                TaskTrace x = c.made(1, 1, bits);
                for (int clock : new int[] {-1, MIN, 1 << bits, MAX}) {
                    c.refused(x, NONE, IN, -1, -1, clock);
                }
                c.tell(x, IN, -1, -1, (1 << bits) - 1, OUT, -1, -1, 0);
            }
        });
        c.test(6, "the TASK or x is not as in I for the kind", "kinds 0 to 5 with a task below 0 or from T on", () -> {
            TaskTrace x = c.made(1, 3, 8);
            for (int kind = READY; kind <= FREE; kind++) {
                for (int task : new int[] {-1, MIN, 3, 8, MAX}) {
                    c.refused(x, NONE, kind, task, kind <= BLOCK ? -1 : 0, 0);
                }
            }
        });
        c.test(6, "MARKS 6 to 12 have TASK -1", "each of them with 0 or -2", () -> {
            TaskTrace x = c.made(1, 1, 8);
            for (int kind = IN; kind <= ANSWER; kind++) {
                for (int task : new int[] {0, -2, MIN, MAX}) {
                    c.refused(x, NONE, kind, task, kind <= LOST ? -1 : 0, 0);
                }
            }
        });
        c.test(6, "and 0, 1, 2, 6, 7, 8 have x -1", "each of them with 0 or -2", () -> {
            TaskTrace x = c.made(1, 1, 8);
            for (int kind : new int[] {READY, RUN, BLOCK, IN, OUT, LOST}) {
                for (int number : new int[] {0, -2, MIN, MAX}) {
                    c.refused(x, NONE, kind, kind <= BLOCK ? 0 : -1, number, 0);
                }
            }
        });
        c.test(6, "(3, 4, 5: x 0 .. 3)", "x -1 and 4", () -> {
            TaskTrace x = c.made(1, 1, 8);
            for (int kind = WANT; kind <= FREE; kind++) {
                for (int number : new int[] {-1, MIN, 4, MAX}) {
                    c.refused(x, NONE, kind, 0, number, 0);
                }
            }
        });
        c.test(6, "(3, 4, 5: x 0 .. 3)", "LOCKS 0 and 3 are taken", () -> {
            TaskTrace x = c.made(1, 2, 8);
            c.tell(x, READY, 0, -1, 0, RUN, 0, -1, 0, LOCK, 0, 0, 0, LOCK, 0, 3, 0, FREE, 0, 0, 0, READY, 1, -1, 0);
            c.tell(x, RUN, 1, -1, 0, WANT, 1, 3, 0, RUN, 0, -1, 0, FREE, 0, 3, 0);
        });
        c.test(6, "12 ANSWER x (x 0 .. 63)", "x -1 and 64", () -> {
            TaskTrace x = c.made(1, 1, 8);
            for (int kind = SEND; kind <= ANSWER; kind++) {
                for (int number : new int[] {-1, MIN, 64, MAX}) {
                    c.refused(x, NONE, kind, -1, number, 0);
                }
            }
        });
        c.test(6, "12 ANSWER x (x 0 .. 63)", "x 0 and 63 are taken", () -> {
            TaskTrace x = c.made(1, 1, 8);
            for (int kind = SEND; kind <= ANSWER; kind++) {
                c.tell(x, kind, -1, 0, 0, kind, -1, 63, 0);
            }
        });
    }

    private void numbersOfMarks() {
        c.test(6, "A MARK of a processor: its number there", "each processor counts from 0 for itself", () -> {
            TaskTrace x = c.made(3, 1, 8);
            c.due("first of 2", x.mark(2, IN, -1, -1, 0), 0);
            c.due("second of 2", x.mark(2, OUT, -1, -1, 0), 1);
            c.due("first of 0", x.mark(0, IN, -1, -1, 0), 0);
            c.due("third of 2", x.mark(2, IN, -1, -1, 0), 2);
        });
        c.test(6, "A MARK of a processor: its number there", "a refused one takes no number", () -> {
            TaskTrace x = c.made(1, 1, 8);
            c.tell(x, IN, -1, -1, 0);
            c.refused(x, BAD, IN, -1, -1, 0);
            c.due("the next", x.mark(0, OUT, -1, -1, 0), 1);
        });
    }

    // ---- promise 6: what each kind wants

    private void readyAndRun() {
        c.test(6, "BAD: the processor isn't the TASK's HOME", "kinds 0 to 5 on another processor", () -> {
            TaskTrace x = c.made(2, 2, 8);
            c.due("home", x.home(1, 1), 0);
            c.due("READY elsewhere", x.mark(0, READY, 1, -1, 0), BAD);
            c.tellOn(x, 1, READY, 1, -1, 0);
            c.due("RUN elsewhere", x.mark(0, RUN, 1, -1, 0), BAD);
            c.tellOn(x, 1, RUN, 1, -1, 0);
            c.due("LOCK elsewhere", x.mark(0, LOCK, 1, 0, 0), BAD);
            c.tellOn(x, 1, LOCK, 1, 0, 0);
            c.due("FREE elsewhere", x.mark(0, FREE, 1, 0, 0), BAD);
            c.due("WANT elsewhere", x.mark(0, WANT, 1, 0, 0), BAD);
            c.due("BLOCK elsewhere", x.mark(0, BLOCK, 1, -1, 0), BAD);
        });
        c.test(6, "0 READY t: from IDLE or UNKNOWN to READY", "from IDLE", () -> {
            TaskTrace x = c.made(1, 1, 8);
            c.tell(x, READY, 0, -1, 0);
            c.due("state", x.state(0), 1);
        });
        c.test(6, "0 READY t: from IDLE or UNKNOWN to READY", "from UNKNOWN", () -> {
            TaskTrace x = c.made(1, 1, 8);
            c.tell(x, LOST, -1, -1, 0, READY, 0, -1, 0);
            c.due("state", x.state(0), 1);
        });
        c.test(6, "0 READY t: from IDLE or UNKNOWN to READY", "not from READY, RUNNING, WANTING", () -> {
            TaskTrace x = oneWantsOfTheOther();
            c.refused(x, BAD, READY, 1, -1, 0);
            c.refused(x, BAD, READY, 0, -1, 0);
            c.tell(x, RUN, 0, -1, 0);
            c.refused(x, BAD, READY, 0, -1, 0);
        });
        c.test(6, "0 READY t: from IDLE or UNKNOWN to READY", "also while the processor is IN", () -> {
            TaskTrace x = c.made(1, 1, 8);
            c.tell(x, IN, -1, -1, 0, READY, 0, -1, 0);
            c.due("state", x.state(0), 1);
        });
        c.test(6, "1 RUN t: from READY or UNKNOWN to RUNNING, not IN", "from READY", () -> {
            TaskTrace x = c.made(1, 1, 8);
            c.tell(x, READY, 0, -1, 0, RUN, 0, -1, 0);
            c.due("state", x.state(0), 2);
        });
        c.test(6, "1 RUN t: from READY or UNKNOWN to RUNNING, not IN", "from UNKNOWN", () -> {
            TaskTrace x = c.made(1, 1, 8);
            c.tell(x, LOST, -1, -1, 0, RUN, 0, -1, 0);
            c.due("state", x.state(0), 2);
        });
        c.test(6, "1 RUN t: from READY or UNKNOWN to RUNNING, not IN", "not from IDLE, RUNNING, WANTING", () -> {
            TaskTrace x = oneWantsOfTheOther();
            c.refused(x, BAD, RUN, 2, -1, 0);
            c.refused(x, BAD, RUN, 1, -1, 0);
            c.tell(x, RUN, 0, -1, 0);
            c.refused(x, BAD, RUN, 0, -1, 0);
        });
        c.test(6, "1 RUN t: from READY or UNKNOWN to RUNNING, not IN", "not while IN, from READY or UNKNOWN", () -> {
            TaskTrace x = c.made(1, 2, 8);
            c.tell(x, LOST, -1, -1, 0, READY, 0, -1, 0, IN, -1, -1, 0);
            c.refused(x, BAD, RUN, 0, -1, 0);
            c.refused(x, BAD, RUN, 1, -1, 0);
            c.tell(x, OUT, -1, -1, 0, RUN, 0, -1, 0);
        });
        c.test(6, "the CURRENT TASK, if there is one that is known, becomes READY", "there is one", () -> {
            TaskTrace x = c.made(1, 2, 8);
            c.tell(x, READY, 0, -1, 0, READY, 1, -1, 0, RUN, 0, -1, 0, RUN, 1, -1, 0);
            c.due("the one that ran", x.state(0), 1);
            c.due("the one that runs", x.state(1), 2);
        });
        c.test(6, "the CURRENT TASK, if there is one that is known, becomes READY", "there is none", () -> {
            TaskTrace x = c.made(1, 2, 8);
            c.tell(x, READY, 0, -1, 0, RUN, 0, -1, 0, BLOCK, 0, -1, 0, READY, 1, -1, 0, RUN, 1, -1, 0);
            c.due("the one that blocked", x.state(0), 0);
        });
        c.test(6, "the CURRENT TASK, if there is one that is known, becomes READY", "it is UNKNOWN", () -> {
            TaskTrace x = c.made(1, 2, 8);
            c.tell(x, READY, 0, -1, 0, RUN, 0, -1, 0, LOST, -1, -1, 0, RUN, 1, -1, 0);
            c.due("the one that ran ahead of the LOST", x.state(0), 4);
        });
        c.test(6, "t is CURRENT then", "so it can BLOCK, and the one ahead of it can't", () -> {
            TaskTrace x = c.made(1, 2, 8);
            c.tell(x, READY, 0, -1, 0, READY, 1, -1, 0, RUN, 0, -1, 0, RUN, 1, -1, 0);
            c.refused(x, BAD, BLOCK, 0, -1, 0);
            c.tell(x, BLOCK, 1, -1, 0);
        });
    }

    /** Task 1 is WANTING LOCK 2, that task 0 (READY) holds; task 2 is IDLE; none is CURRENT. */
    private TaskTrace oneWantsOfTheOther() {
        TaskTrace x = c.made(1, 3, 8);
        c.tell(x, READY, 0, -1, 0, READY, 1, -1, 0, RUN, 0, -1, 0, LOCK, 0, 2, 0, RUN, 1, -1, 0, WANT, 1, 2, 0);
        return x;
    }

    private void blockAndInterrupts() {
        c.test(6, "2 BLOCK t: t is CURRENT and RUNNING, not IN", "not IDLE, READY, WANTING, UNKNOWN", () -> {
            TaskTrace x = oneWantsOfTheOther();
            c.refused(x, BAD, BLOCK, 2, -1, 0);
            c.refused(x, BAD, BLOCK, 0, -1, 0);
            c.refused(x, BAD, BLOCK, 1, -1, 0);
            c.tell(x, LOST, -1, -1, 0);
            c.refused(x, BAD, BLOCK, 0, -1, 0);
        });
        c.test(6, "2 BLOCK t: t is CURRENT and RUNNING, not IN", "not while IN, but behind OUT", () -> {
            TaskTrace x = c.made(1, 1, 8);
            c.tell(x, READY, 0, -1, 0, RUN, 0, -1, 0, IN, -1, -1, 0);
            c.refused(x, BAD, BLOCK, 0, -1, 0);
            c.tell(x, OUT, -1, -1, 0, BLOCK, 0, -1, 0);
        });
        c.test(6, "it becomes IDLE; none is CURRENT", "behind BLOCK", () -> {
            TaskTrace x = c.made(1, 1, 8);
            c.tell(x, READY, 0, -1, 0, RUN, 0, -1, 0, BLOCK, 0, -1, 0, SEND, -1, 0, 3);
            c.due("state", x.state(0), 0);
            c.due("does nothing", x.busy(0, 0), 3);
        });
        c.test(6, "it becomes IDLE; none is CURRENT", "its locks stay held", () -> {
            TaskTrace x = c.made(1, 1, 8);
            c.tell(x, READY, 0, -1, 0, RUN, 0, -1, 0, LOCK, 0, 1, 0, BLOCK, 0, -1, 0);
            c.due("holder", x.holder(0, 1), 0);
            c.tell(x, READY, 0, -1, 0, RUN, 0, -1, 0, FREE, 0, 1, 0);
        });
        c.test(6, "6 IN: it isn't IN: it is", "IN behind IN is refused, behind OUT it is taken", () -> {
            TaskTrace x = c.made(2, 1, 8);
            c.tell(x, IN, -1, -1, 0);
            c.refused(x, BAD, IN, -1, -1, 0);
            c.due("the other processor isn't IN", x.mark(1, IN, -1, -1, 0), 0);
            c.tell(x, OUT, -1, -1, 0, IN, -1, -1, 0);
        });
        c.test(6, "7 OUT: it is IN: it isn't any more", "OUT at first and behind OUT is refused", () -> {
            TaskTrace x = c.made(2, 1, 8);
            c.refused(x, BAD, OUT, -1, -1, 0);
            c.tell(x, IN, -1, -1, 0);
            c.due("the other processor isn't IN", x.mark(1, OUT, -1, -1, 0), BAD);
            c.tell(x, OUT, -1, -1, 0);
            c.refused(x, BAD, OUT, -1, -1, 0);
        });
    }

    private void want() {
        String words = "3 WANT t x: t is CURRENT and RUNNING, not IN, LOCK x is held by another TASK";
        c.test(6, words, "held by none", () -> {
            TaskTrace x = running(1);
            c.refused(x, BAD, WANT, 1, 0, 0);
        });
        c.test(6, words, "held by itself", () -> {
            TaskTrace x = running(1);
            c.tell(x, LOCK, 1, 0, 0);
            c.refused(x, BAD, WANT, 1, 0, 0);
        });
        c.test(6, words, "held by another, but not this LOCK", () -> {
            TaskTrace x = running(0);
            c.tell(x, LOCK, 0, 1, 0, READY, 1, -1, 0, RUN, 1, -1, 0);
            c.refused(x, BAD, WANT, 1, 0, 0);
            c.refused(x, BAD, WANT, 1, 2, 0);
            c.tell(x, WANT, 1, 1, 0);
            c.due("state", x.state(1), 3);
        });
        c.test(6, words, "the same number on another processor is another LOCK", () -> {
            TaskTrace x = c.made(2, 2, 8);
            c.due("home", x.home(1, 1), 0);
            c.tell(x, READY, 0, -1, 0, RUN, 0, -1, 0, LOCK, 0, 2, 0);
            c.tellOn(x, 1, READY, 1, -1, 0, RUN, 1, -1, 0);
            c.due("WANT", x.mark(1, WANT, 1, 2, 0), BAD);
            c.due("LOCK", x.mark(1, LOCK, 1, 2, 0), 2);
        });
        c.test(6, words, "not READY, WANTING, IDLE", () -> {
            TaskTrace x = oneWantsOfTheOther();
            c.refused(x, BAD, WANT, 1, 2, 0);
            c.refused(x, BAD, WANT, 2, 2, 0);
            c.tell(x, READY, 2, -1, 0);
            c.refused(x, BAD, WANT, 2, 2, 0);
        });
        c.test(6, words, "not while IN", () -> {
            TaskTrace x = oneWantsOfTheOther();
            c.tell(x, READY, 2, -1, 0, RUN, 2, -1, 0, IN, -1, -1, 0);
            c.refused(x, BAD, WANT, 2, 2, 0);
            c.tell(x, OUT, -1, -1, 0, WANT, 2, 2, 0);
        });
        c.test(6, "t becomes WANTING; none is CURRENT", "behind WANT", () -> {
            TaskTrace x = oneWantsOfTheOther();
            c.tell(x, SEND, -1, 0, 5);
            c.due("state", x.state(1), 3);
            c.due("does nothing", x.busy(0, 0), 5);
            c.tell(x, RUN, 0, -1, 5);
            c.due("it stays WANTING when another runs", x.state(1), 3);
        });
    }

    /** A task of three that is CURRENT and RUNNING, the only one that is not IDLE. */
    private TaskTrace running(int task) {
        TaskTrace x = c.made(1, 3, 8);
        c.tell(x, READY, task, -1, 0, RUN, task, -1, 0);
        return x;
    }

    private void lock() {
        String none = "4 LOCK t x: LOCK x is held by none";
        String running = "either t is CURRENT and RUNNING, not IN: it holds x";
        String wanting = "or it is WANTING x: it holds x and becomes READY";
        c.test(6, none, "held by itself", () -> {
            TaskTrace x = running(0);
            c.tell(x, LOCK, 0, 3, 0);
            c.refused(x, BAD, LOCK, 0, 3, 0);
        });
        c.test(6, none, "held by another, for one that runs", () -> {
            TaskTrace x = oneWantsOfTheOther();
            c.tell(x, READY, 2, -1, 0, RUN, 2, -1, 0);
            c.refused(x, BAD, LOCK, 2, 2, 0);
        });
        c.test(6, none, "held by another, for one that is WANTING it", () -> c.refused(oneWantsOfTheOther(), BAD, LOCK, 1, 2, 0));
        c.test(6, running, "all four LOCKS", () -> {
            TaskTrace x = running(0);
            for (int lock = 0; lock < 4; lock++) {
                c.tell(x, LOCK, 0, lock, 0);
                c.due("holder", x.holder(0, lock), 0);
            }
            c.due("it runs on", x.state(0), 2);
        });
        c.test(6, running, "not IDLE, READY, UNKNOWN", () -> {
            TaskTrace x = running(0);
            c.tell(x, READY, 1, -1, 0);
            c.refused(x, BAD, LOCK, 1, 0, 0);
            c.refused(x, BAD, LOCK, 2, 0, 0);
            c.tell(x, LOST, -1, -1, 0);
            c.refused(x, BAD, LOCK, 0, 0, 0);
        });
        c.test(6, running, "not while IN", () -> {
            TaskTrace x = running(0);
            c.tell(x, IN, -1, -1, 0);
            c.refused(x, BAD, LOCK, 0, 0, 0);
            c.tell(x, OUT, -1, -1, 0, LOCK, 0, 0, 0);
        });
        c.test(6, wanting, "while another is CURRENT", () -> {
            TaskTrace x = oneWantsOfTheOther();
            c.tell(x, RUN, 0, -1, 0, FREE, 0, 2, 0, LOCK, 1, 2, 0);
            c.due("state", x.state(1), 1);
            c.due("holder", x.holder(0, 2), 1);
            c.due("the CURRENT one runs on", x.state(0), 2);
        });
        c.test(6, wanting, "also while IN", () -> {
            TaskTrace x = oneWantsOfTheOther();
            c.tell(x, RUN, 0, -1, 0, FREE, 0, 2, 0, IN, -1, -1, 0, LOCK, 1, 2, 0);
            c.due("state", x.state(1), 1);
        });
        c.test(6, wanting, "not another LOCK that is held by none", () -> {
            TaskTrace x = oneWantsOfTheOther();
            for (int lock : new int[] {0, 1, 3}) {
                c.refused(x, BAD, LOCK, 1, lock, 0);
            }
        });
        c.test(6, wanting, "it is not the CURRENT one then", () -> {
            TaskTrace x = oneWantsOfTheOther();
            c.tell(x, RUN, 0, -1, 0, FREE, 0, 2, 0, BLOCK, 0, -1, 0, LOCK, 1, 2, 0);
            c.refused(x, BAD, BLOCK, 1, -1, 0);
            c.tell(x, RUN, 1, -1, 0, BLOCK, 1, -1, 0);
        });
        c.test(6, wanting, "of two that want it the second is left with nothing", () -> {
            TaskTrace x = oneWantsOfTheOther();
            c.tell(x, READY, 2, -1, 0, RUN, 2, -1, 0, WANT, 2, 2, 0, RUN, 0, -1, 0, FREE, 0, 2, 0, LOCK, 2, 2, 0);
            c.refused(x, BAD, LOCK, 1, 2, 0);
            c.due("still WANTING", x.state(1), 3);
        });
    }

    private void free() {
        String words = "5 FREE t x: t is CURRENT and RUNNING, not IN, and holds x";
        c.test(6, words, "held by none, or freed twice", () -> {
            TaskTrace x = running(0);
            c.refused(x, BAD, FREE, 0, 0, 0);
            c.tell(x, LOCK, 0, 0, 0, FREE, 0, 0, 0);
            c.refused(x, BAD, FREE, 0, 0, 0);
        });
        c.test(6, words, "another LOCK than it holds", () -> {
            TaskTrace x = running(0);
            c.tell(x, LOCK, 0, 1, 0);
            c.refused(x, BAD, FREE, 0, 0, 0);
            c.refused(x, BAD, FREE, 0, 2, 0);
            c.tell(x, FREE, 0, 1, 0);
        });
        c.test(6, words, "held by another", () -> {
            TaskTrace x = running(0);
            c.tell(x, LOCK, 0, 1, 0, READY, 1, -1, 0, RUN, 1, -1, 0);
            c.refused(x, BAD, FREE, 1, 1, 0);
        });
        c.test(6, words, "the holder is not CURRENT", () -> {
            TaskTrace x = running(0);
            c.tell(x, LOCK, 0, 1, 0, READY, 1, -1, 0, RUN, 1, -1, 0);
            c.refused(x, BAD, FREE, 0, 1, 0);
        });
        c.test(6, words, "not while IN", () -> {
            TaskTrace x = running(0);
            c.tell(x, LOCK, 0, 1, 0, IN, -1, -1, 0);
            c.refused(x, BAD, FREE, 0, 1, 0);
        });
        c.test(6, "none holds it then", "and another may LOCK it", () -> {
            TaskTrace x = running(0);
            c.tell(x, LOCK, 0, 1, 0, FREE, 0, 1, 0);
            c.due("holder", x.holder(0, 1), -2);
            c.due("it runs on", x.state(0), 2);
            c.tell(x, READY, 1, -1, 0, RUN, 1, -1, 0, LOCK, 1, 1, 0);
            c.due("holder", x.holder(0, 1), 1);
        });
    }

    private void lost() {
        c.test(6, "8 LOST: MARKS are missing between this one and the one ahead of it", "it may be the first, and follow itself", () -> {
            TaskTrace x = c.made(1, 1, 8);
            c.tell(x, LOST, -1, -1, 0, LOST, -1, -1, 0, LOST, -1, -1, 4);
            c.due("state", x.state(0), 4);
        });
        c.test(6, "all TASKS with this HOME are UNKNOWN then", "from each state, and those of another HOME are not", () -> {
            TaskTrace x = c.made(2, 5, 8);
            c.due("home", x.home(4, 1), 0);
            c.tell(x, READY, 0, -1, 0, READY, 1, -1, 0, RUN, 0, -1, 0, LOCK, 0, 2, 0, RUN, 1, -1, 0, WANT, 1, 2, 0);
            c.tell(x, READY, 2, -1, 0, RUN, 2, -1, 0, LOST, -1, -1, 0);
            for (int t = 0; t < 4; t++) {
                c.due("state(" + t + ")", x.state(t), 4);
            }
            c.due("the other's", x.state(4), 0);
        });
        c.test(6, "the CURRENT one too", "it is UNKNOWN, not none: the stretch behind is dark", () -> {
            TaskTrace x = c.made(1, 1, 8);
            c.tell(x, LOST, -1, -1, 0, SEND, -1, 0, 4);
            c.due("unknown", x.busy(0, 3), 4);
            c.due("does nothing", x.busy(0, 0), 0);
        });
        c.test(6, "it is not IN, no LOCK of it is held", "not IN", () -> {
            TaskTrace x = c.made(2, 1, 8);
            c.tell(x, IN, -1, -1, 0, LOST, -1, -1, 0);
            c.refused(x, BAD, OUT, -1, -1, 0);
            c.tell(x, IN, -1, -1, 0);
        });
        c.test(6, "it is not IN, no LOCK of it is held", "all four LOCKS, but not another processor's", () -> {
            TaskTrace x = c.made(2, 2, 8);
            c.due("home", x.home(1, 1), 0);
            c.tellOn(x, 1, READY, 1, -1, 0, RUN, 1, -1, 0, LOCK, 1, 3, 0);
            c.tell(x, READY, 0, -1, 0, RUN, 0, -1, 0, LOCK, 0, 0, 0, LOCK, 0, 1, 0, LOCK, 0, 2, 0, LOCK, 0, 3, 0, LOST, -1, -1, 0);
            for (int lock = 0; lock < 4; lock++) {
                c.due("holder(0, " + lock + ")", x.holder(0, lock), -2);
            }
            c.due("holder(1, 3)", x.holder(1, 3), 1);
        });
        c.test(6, "it is not IN, no LOCK of it is held", "what a task held or wanted ahead of it is forgotten", () -> {
            TaskTrace x = oneWantsOfTheOther();
            c.tell(x, LOST, -1, -1, 0);
            c.refused(x, BAD, LOCK, 1, 2, 0);
            c.tell(x, RUN, 0, -1, 0);
            c.refused(x, BAD, FREE, 0, 2, 0);
            c.tell(x, LOCK, 0, 2, 0);
        });
    }

    private void letters() {
        c.test(6, "nothing of these changes", "while a task runs, IN, and with a LOCK held", () -> {
            TaskTrace x = running(0);
            c.tell(x, LOCK, 0, 1, 0, IN, -1, -1, 0, SEND, -1, 0, 1, RECEIVE, -1, 1, 2, START, -1, 2, 3, ANSWER, -1, 3, 4);
            c.due("state", x.state(0), 2);
            c.due("holder", x.holder(0, 1), 0);
            c.tell(x, OUT, -1, -1, 5, FREE, 0, 1, 5, BLOCK, 0, -1, 5);
        });
        c.test(6, "TWICE: such a MARK with x was told (9 .. 12)", "each kind on the same and on another processor", () -> {
            TaskTrace x = c.made(3, 1, 8);
            for (int kind = SEND; kind <= ANSWER; kind++) {
                c.tellOn(x, 1, kind, -1, 63, 0);
                for (int p = 0; p < 3; p++) {
                    c.due("kind " + kind + " again on " + p, x.mark(p, kind, -1, 63, 0), TWICE);
                }
            }
        });
        c.test(6, "each of the four comes once for an x", "the four kinds with one x, and one kind with each x", () -> {
            TaskTrace x = c.made(1, 1, 8);
            for (int kind = SEND; kind <= ANSWER; kind++) {
                c.tell(x, kind, -1, 7, 0);
            }
            for (int number = 0; number < 64; number++) {
                c.due("SEND " + number, x.mark(0, SEND, -1, number, 0), number == 7 ? TWICE : 4 + number - (number > 7 ? 1 : 0));
            }
        });
        c.test(6, "TWICE: such a MARK with x was told (9 .. 12)", "one that was refused was not told", () -> {
            TaskTrace x = c.made(2, 1, 8);
            c.refused(x, NONE, SEND, -1, 5, 256);
            c.refused(x, NONE, SEND, 0, 5, 0);
            c.tell(x, SEND, -1, 5, 0);
        });
        c.test(6, "TWICE: such a MARK with x was told (9 .. 12)", "also ahead of a LOST", () -> {
            TaskTrace x = c.made(1, 1, 8);
            c.tell(x, SEND, -1, 5, 0, LOST, -1, -1, 0);
            c.refused(x, TWICE, SEND, -1, 5, 0);
        });
    }

    // ---- promise 6: full, and the order

    private void full() {
        c.test(6, "FULL: 200", "the 200th is taken, the 201st is not", () -> {
            TaskTrace x = c.made(1, 1, 8);
            c.tellLetters(x, 0, 199, 0);
            c.due("the 200th", x.mark(0, LOST, -1, -1, 9), 199);
            c.refused(x, FULL, LOST, -1, -1, 10);
            c.due("count(10)", x.count(10), 200);
            c.due("the last one's time", x.told(0, 199, 3), 9);
        });
        c.test(6, "a processor has 200 at most", "the others go on", () -> {
            TaskTrace x = c.made(2, 1, 8);
            c.tellLetters(x, 0, 200, 0);
            c.refused(x, FULL, IN, -1, -1, 0);
            c.due("the other's first", x.mark(1, IN, -1, -1, 0), 0);
        });
        c.test(6, "a processor has 200 at most", "each of two", () -> {
            TaskTrace x = c.made(2, 1, 8);
            for (int i = 0; i < 200; i++) {
                c.due("mark", x.mark(1, LOST, -1, -1, 0), i);
                c.due("mark", x.mark(0, LOST, -1, -1, 0), i);
            }
            c.due("full", x.mark(0, LOST, -1, -1, 0), FULL);
            c.due("full", x.mark(1, LOST, -1, -1, 0), FULL);
            c.due("in all", x.count(3), 400);
        });
        c.test(6, "FULL: 200", "what is refused changes nothing: no state, no letter", () -> {
            TaskTrace x = c.made(2, 1, 8);
            for (int i = 0; i < 200; i++) {
                c.due("mark", x.mark(0, i % 2 == 0 ? IN : OUT, -1, -1, 0), i);
            }
            c.refused(x, FULL, READY, 0, -1, 0);
            c.due("state", x.state(0), 0);
            c.refused(x, FULL, SEND, -1, 8, 0);
            c.due("the letter may come elsewhere", x.mark(1, SEND, -1, 8, 0), 0);
            c.refused(x, FULL, IN, -1, -1, 0);
            c.refused(x, BAD, OUT, -1, -1, 0);
        });
    }

    private void orderOfRefusals() {
        String words = "Of several refusals the one that is named first in a method's words is answered";
        c.test(6, words, "NONE ahead of BAD", () -> {
            TaskTrace x = c.made(2, 1, 8);
            c.due("OUT with a wrong clock", x.mark(0, OUT, -1, -1, 256), NONE);
            c.due("OUT with a task", x.mark(0, OUT, 0, -1, 0), NONE);
            c.due("RUN away from home with an x", x.mark(1, RUN, 0, 0, 0), NONE);
            c.due("FREE with a wrong x", x.mark(0, FREE, 0, 4, 0), NONE);
        });
        c.test(6, words, "NONE ahead of TWICE", () -> {
            TaskTrace x = c.made(1, 1, 8);
            c.tell(x, SEND, -1, 5, 0);
            c.refused(x, NONE, SEND, -1, 5, -1);
            c.refused(x, NONE, SEND, 0, 5, 0);
            c.due("processor", x.mark(1, SEND, -1, 5, 0), NONE);
        });
        c.test(6, words, "NONE, BAD and TWICE ahead of FULL", () -> {
            TaskTrace x = c.made(2, 2, 8);
            c.due("home", x.home(1, 1), 0);
            c.tellLetters(x, 0, 200, 0);
            c.refused(x, NONE, IN, -1, -1, 256);
            c.refused(x, NONE, SEND, -1, 64, 0);
            c.refused(x, BAD, OUT, -1, -1, 0);
            c.refused(x, BAD, READY, 1, -1, 0);
            c.refused(x, TWICE, SEND, -1, 0, 0);
            c.refused(x, FULL, ANSWER, -1, 63, 0);
        });
    }

    // ---- promise 7

    private void told() {
        c.test(7, "what 0 kind, 1 TASK, 2 x, 3 TIME", "of each kind", () -> {
            TaskTrace x = c.made(1, 2, 8);
            int[] marks = {READY, 1, -1, 1, RUN, 1, -1, 2, LOCK, 1, 3, 3, READY, 0, -1, 4, RUN, 0, -1, 5, WANT, 0, 3, 6,
                RUN, 1, -1, 7, FREE, 1, 3, 8, IN, -1, -1, 9, OUT, -1, -1, 10, BLOCK, 1, -1, 11, LOST, -1, -1, 12,
                SEND, -1, 63, 13, RECEIVE, -1, 62, 14, START, -1, 61, 15, ANSWER, -1, 60, 16};
            c.tell(x, marks);
            for (int k = 0; k < marks.length; k++) {
                c.due("told(0, " + k / 4 + ", " + k % 4 + ")", x.told(0, k / 4, k % 4), marks[k]);
            }
        });
        c.test(7, "NONE: there is none, no such what", "a processor below 0 or from P on", () -> {
            TaskTrace x = c.made(2, 1, 8);
            c.tell(x, IN, -1, -1, 0);
            for (int processor : new int[] {-1, MIN, 2, 3, MAX}) {
                c.due("told(" + processor + ", 0, 0)", x.told(processor, 0, 0), NONE);
            }
        });
        c.test(7, "NONE: there is none, no such what", "i below 0 or from the number of marks on", () -> {
            TaskTrace x = c.made(2, 1, 8);
            c.tell(x, IN, -1, -1, 5, OUT, -1, -1, 6);
            for (int i : new int[] {-1, MIN, 2, 199, 200, MAX}) {
                c.due("told(0, " + i + ", 3)", x.told(0, i, 3), NONE);
            }
            c.due("of a processor without marks", x.told(1, 0, 3), NONE);
            c.due("the last", x.told(0, 1, 3), 6);
        });
        c.test(7, "NONE: there is none, no such what", "what below 0 or above 3", () -> {
            TaskTrace x = c.made(1, 1, 8);
            c.tell(x, IN, -1, -1, 5);
            for (int what : new int[] {-1, MIN, 4, MAX}) {
                c.due("told(0, 0, " + what + ")", x.told(0, 0, what), NONE);
            }
        });
    }

    private void timesThatWrap() {
        c.test(7, "The TIME of its first MARK is its CLOCK", "the least and the greatest, for each processor", () -> {
            TaskTrace x = c.made(2, 1, 4);
            c.tell(x, IN, -1, -1, 0);
            c.tellOn(x, 1, IN, -1, -1, 15);
            c.due("least", x.told(0, 0, 3), 0);
            c.due("greatest", x.told(1, 0, 3), 15);
        });
        c.test(7, "the least number, not below 0, that makes its CLOCK from the one ahead", "the same CLOCK adds 0", () -> {
            TaskTrace x = c.made(1, 1, 4);
            c.tell(x, IN, -1, -1, 15, OUT, -1, -1, 15, IN, -1, -1, 15);
            c.due("time", x.told(0, 2, 3), 15);
        });
        c.test(7, "the least number, not below 0, that makes its CLOCK from the one ahead", "a CLOCK one below adds 2^W - 1", () -> {
            for (int bits : new int[] {4, 16}) {
                TaskTrace x = c.made(1, 1, bits);
                c.tell(x, IN, -1, -1, 9, OUT, -1, -1, 8, IN, -1, -1, 7);
                c.due("once", x.told(0, 1, 3), 8 + (1 << bits));
                c.due("twice", x.told(0, 2, 3), 7 + (2 << bits));
            }
        });
        c.test(7, "(modulo 2^W)", "from the greatest CLOCK to 0 is 1", () -> {
            for (int bits : new int[] {4, 16}) {
                TaskTrace x = c.made(1, 1, bits);
                c.tell(x, IN, -1, -1, (1 << bits) - 1, OUT, -1, -1, 0, IN, -1, -1, (1 << bits) - 1);
                c.due("one more", x.told(0, 1, 3), 1 << bits);
                c.due("nearly round", x.told(0, 2, 3), (2 << bits) - 1);
            }
        });
        c.test(7, "(modulo 2^W)", "200 marks that each go nearly round", () -> {
            TaskTrace x = c.made(1, 1, 16);
            for (int i = 0; i < 200; i++) {
                c.due("mark", x.mark(0, LOST, -1, -1, (65535 * (i + 1)) & 65535), i);
            }
            c.due("the last time", x.told(0, 199, 3), 200 * 65535);
            c.due("the length", x.sum(0, 5), 199 * 65535);
        });
        c.test(7, "that of each other one is the TIME ahead of it", "each processor has its own", () -> {
            TaskTrace x = c.made(2, 1, 4);
            c.tell(x, IN, -1, -1, 10);
            c.tellOn(x, 1, IN, -1, -1, 3);
            c.tell(x, OUT, -1, -1, 2);
            c.tellOn(x, 1, OUT, -1, -1, 4);
            c.due("of 0", x.told(0, 1, 3), 18);
            c.due("of 1", x.told(1, 1, 3), 4);
        });
        c.test(7, "that of each other one is the TIME ahead of it", "a refused mark between changes nothing", () -> {
            TaskTrace x = c.made(1, 1, 4);
            c.tell(x, IN, -1, -1, 10);
            c.refused(x, BAD, IN, -1, -1, 5);
            c.tell(x, OUT, -1, -1, 12);
            c.due("time", x.told(0, 1, 3), 12);
        });
        c.test(7, "that of each other one is the TIME ahead of it", "a LOST adds what its CLOCK says, as each kind", () -> {
            TaskTrace x = c.made(1, 1, 4);
            c.tell(x, IN, -1, -1, 10, LOST, -1, -1, 9, IN, -1, -1, 9);
            c.due("time", x.told(0, 1, 3), 25);
            c.due("time", x.told(0, 2, 3), 25);
        });
    }

    // ---- promises 8 and 9

    private void state() {
        c.test(8, "0 IDLE, 1 READY, 2 RUNNING, 3 WANTING, 4 UNKNOWN", "each of them", () -> {
            TaskTrace x = oneWantsOfTheOther();
            c.tell(x, RUN, 0, -1, 0);
            c.due("RUNNING", x.state(0), 2);
            c.due("WANTING", x.state(1), 3);
            c.due("IDLE", x.state(2), 0);
            c.tell(x, READY, 2, -1, 0);
            c.due("READY", x.state(2), 1);
            c.tell(x, LOST, -1, -1, 0);
            c.due("UNKNOWN", x.state(2), 4);
        });
        c.test(8, "How a TASK is behind its HOME's last MARK", "RUNNING while IN: it is so, though it counts as READY", () -> {
            TaskTrace x = running(0);
            c.tell(x, IN, -1, -1, 0);
            c.due("state", x.state(0), 2);
        });
        c.test(8, "How a TASK is behind its HOME's last MARK", "known again though the processor's CURRENT TASK is not", () -> {
            TaskTrace x = c.made(1, 2, 8);
            c.tell(x, LOST, -1, -1, 0, READY, 1, -1, 0);
            c.due("state(1)", x.state(1), 1);
            c.due("state(0)", x.state(0), 4);
        });
        c.test(8, "NONE: no such TASK", "below 0 or from T on", () -> {
            TaskTrace x = c.made(1, 3, 8);
            for (int task : new int[] {-1, MIN, 3, 8, MAX}) {
                c.due("state(" + task + ")", x.state(task), NONE);
            }
            c.due("the last", x.state(2), 0);
        });
    }

    private void holder() {
        c.test(9, "-2: none", "at first, behind FREE and behind LOST", () -> {
            TaskTrace x = running(1);
            c.due("at first", x.holder(0, 0), -2);
            c.tell(x, LOCK, 1, 0, 0, LOCK, 1, 1, 0, FREE, 1, 0, 0);
            c.due("freed", x.holder(0, 0), -2);
            c.due("held", x.holder(0, 1), 1);
            c.tell(x, LOST, -1, -1, 0);
            c.due("lost", x.holder(0, 1), -2);
        });
        c.test(9, "Which TASK holds a LOCK behind the processor's last MARK", "task 0 and task 7, locks 0 and 3", () -> {
            TaskTrace x = c.made(1, 8, 8);
            c.tell(x, READY, 0, -1, 0, RUN, 0, -1, 0, LOCK, 0, 0, 0, READY, 7, -1, 0, RUN, 7, -1, 0, LOCK, 7, 3, 0);
            c.due("holder(0, 0)", x.holder(0, 0), 0);
            c.due("holder(0, 3)", x.holder(0, 3), 7);
        });
        c.test(9, "NONE: no such processor, LOCK", "a processor below 0 or from P on", () -> {
            TaskTrace x = c.made(2, 1, 8);
            for (int processor : new int[] {-1, MIN, 2, 3, MAX}) {
                c.due("holder(" + processor + ", 0)", x.holder(processor, 0), NONE);
            }
        });
        c.test(9, "NONE: no such processor, LOCK", "a LOCK below 0 or above 3", () -> {
            TaskTrace x = c.made(2, 1, 8);
            for (int lock : new int[] {-1, MIN, 4, MAX}) {
                c.due("holder(1, " + lock + ")", x.holder(1, lock), NONE);
            }
        });
    }
}
