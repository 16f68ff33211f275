/** For each promise of the document: ordinary inputs, the edges that it names, and wrong inputs. */
public final class PromiseTests {
    private static final int READY = 0, RUN = 1, BLOCK = 2, WANT = 3, LOCK = 4, FREE = 5, IN = 6, OUT = 7, LOST = 8;
    private static final int SEND = 9, RECEIVE = 10, START = 11, ANSWER = 12;
    private static final int MIN = Integer.MIN_VALUE, MAX = Integer.MAX_VALUE;
    private static final Checks c = new Checks();

    public static void main(String[] args) {
        newObject();
        begin();
        home();
        rank();
        other();
        markForms();
        markStates();
        markLocks();
        markLost();
        markLettersAndFull();
        told();
        state();
        holder();
        sum();
        busy();
        waits();
        held();
        heldOrder();
        chain();
        jobs();
        jobsAndDarkness();
        job();
        worst();
        late();
        law();
        lawOfBlocks();
        lawOfLocks();
        lawOfReadies();
        lawOfIdling();
        broken();
        agree();
        gap();
        gapThroughAThird();
        answer();
        again();
        againTies();
        slowest();
        period();
        tape();
        keep();
        back();
        backToWantingAndToOne();
        differ();
        toss();
        play();
        clear();
        put();
        at();
        copy();
        count();
        c.end();
    }

    private static TaskTrace made(int processors, int tasks, int bits) {
        TaskTrace x = new TaskTrace();
        c.due("begin", x.begin(processors, tasks, bits), processors);
        return x;
    }

    /** Tells marks of processor 0, each as kind, task, x, clock; all are due to be taken. */
    private static void tell(TaskTrace x, int... marks) {
        tellOn(x, 0, marks);
    }

    private static void tellOn(TaskTrace x, int processor, int... marks) {
        for (int i = 0; i < marks.length; i += 4) {
            int due = x.count(10 + processor);
            int got = x.mark(processor, marks[i], marks[i + 1], marks[i + 2], marks[i + 3]);
            c.due("mark " + marks[i] + " at " + marks[i + 3], got, due);
        }
    }

    private static void counts(TaskTrace x, int marks, int refused, int host) {
        c.due("count(3)", x.count(3), marks);
        c.due("count(5)", x.count(5), refused);
        c.due("count(6)", x.count(6), host);
    }

    // 1
    private static void newObject() {
        TaskTrace x = new TaskTrace();
        int[] due = {1, 2, 16, 0, 0, 0, 0};
        for (int what = 0; what < due.length; what++) {
            c.due("new count(" + what + ")", x.count(what), due[what]);
        }
        c.due("new state(0)", x.state(0), 0);
        c.due("new state(2)", x.state(2), -1);
        c.due("new holder", x.holder(0, 3), -2);
        c.due("new rank", x.rank(1, 4), 0);
        c.due("new other", x.other(1, 5), 4);
        c.due("new home", x.home(1, 0), 0);
        c.due("new clear", x.clear(5), 0);
        c.due("new agree", x.agree(), 1);
        c.due("new sum", x.sum(0, 5), 0);
        c.due("new jobs", x.jobs(0), 0);
        c.due("widest clock", x.mark(0, IN, -1, -1, 65535), 0);
        c.due("too wide a clock", x.mark(0, OUT, -1, -1, 65536), -1);
    }

    // 2
    private static void begin() {
        TaskTrace x = new TaskTrace();
        int[][] wrong = {{0, 1, 4}, {4, 1, 4}, {1, 0, 4}, {1, 9, 4}, {1, 1, 3}, {1, 1, 17}, {MIN, 1, 4}, {1, MAX, 4}, {1, 1, MIN}};
        for (int[] w : wrong) {
            c.due("wrong begin", x.begin(w[0], w[1], w[2]), -1);
        }
        c.due("refused begin keeps P", x.count(0), 1);
        c.due("begin(3, 8, 16)", x.begin(3, 8, 16), 3);
        x.home(7, 2);
        x.rank(7, 9);
        x.other(7, 3);
        x.law(3, 0, 0, 0);
        x.tape(0, 4, 2);
        x.put(0, 1, 77);
        x.put(0, 2, 77);
        x.mark(2, READY, 7, -1, 0);
        x.mark(2, READY, 7, -1, 0);
        x.mark(1, SEND, -1, 5, 0);
        counts(x, 2, 1, 1);
        c.due("begin(9, 8, 16)", x.begin(9, 8, 16), -1);
        counts(x, 2, 1, 1);
        c.due("begin(2, 8, 4)", x.begin(2, 8, 4), 2);
        counts(x, 0, 0, 0);
        c.due("laws gone", x.count(4), 0);
        c.due("W", x.count(2), 4);
        c.due("home is 0", x.home(7, 1), 0);
        c.due("rank is 0", x.rank(7, 2), 0);
        c.due("other untold", x.other(7, 1), 2);
        c.due("tapes stay", x.at(0, 1), 77);
        c.due("state anew", x.state(7), 0);
        c.due("the letter is free again", x.mark(1, SEND, -1, 5, 15), 0);
        c.due("clock of 4 bits", x.mark(1, SEND, -1, 6, 16), -1);
    }

    // 3
    private static void home() {
        TaskTrace x = made(3, 4, 8);
        c.due("home(3, 2)", x.home(3, 2), 0);
        c.due("home(3, 1)", x.home(3, 1), 2);
        c.due("no such task", x.home(4, 0), -1);
        c.due("no such task", x.home(-1, 0), -1);
        c.due("no such processor", x.home(0, 3), -1);
        c.due("no such processor", x.home(0, -1), -1);
        tellOn(x, 2, SEND, -1, 0, 0);
        c.due("started", x.home(0, 1), -2);
        c.due("none ahead of started", x.home(0, 3), -1);
        c.due("away", x.mark(0, READY, 3, -1, 0), -3);
        c.due("at home", x.mark(1, READY, 3, -1, 0), 0);
    }

    // 4
    private static void rank() {
        TaskTrace x = made(1, 2, 8);
        c.due("rank(1, 15)", x.rank(1, 15), 0);
        c.due("rank(1, 0)", x.rank(1, 0), 15);
        c.due("no such rank", x.rank(1, 16), -1);
        c.due("no such rank", x.rank(1, -1), -1);
        c.due("no such task", x.rank(2, 1), -1);
        c.due("no such task", x.rank(-1, 1), -1);
        c.due("nothing changed", x.rank(1, 3), 0);
        tell(x, READY, 0, -1, 0, RUN, 0, -1, 0, READY, 1, -1, 0, IN, -1, -1, 9);
        c.due("waits for the lower", x.wait(1, 3), 9);
        c.due("rank while started", x.rank(0, 4), 0);
        c.due("waits for the higher", x.wait(1, 1), 9);
    }

    // 5
    private static void other() {
        TaskTrace x = made(1, 2, 8);
        c.due("rank(0, 7)", x.rank(0, 7), 0);
        c.due("untold other is the rank", x.other(0, 2), 7);
        c.due("rank(0, 9)", x.rank(0, 9), 7);
        c.due("told other stays", x.other(0, 15), 2);
        c.due("no such rank", x.other(0, 16), -1);
        c.due("no such rank", x.other(0, -1), -1);
        c.due("no such task", x.other(2, 0), -1);
        c.due("no such task", x.other(MIN, 0), -1);
        c.due("nothing changed", x.other(0, 0), 15);
        c.due("rank untouched", x.rank(0, 0), 9);
    }

    // 6
    private static void markForms() {
        TaskTrace x = made(2, 2, 4);
        int[][] none = {
            {-1, READY, 0, -1, 0}, {2, READY, 0, -1, 0}, {0, -1, 0, -1, 0}, {0, 13, -1, -1, 0},
            {0, READY, 0, -1, -1}, {0, READY, 0, -1, 16}, {0, READY, -1, -1, 0}, {0, READY, 2, -1, 0},
            {0, READY, 0, 0, 0}, {0, RUN, 0, 1, 0}, {0, BLOCK, 0, 0, 0}, {0, WANT, 0, -1, 0}, {0, WANT, 0, 4, 0},
            {0, LOCK, 0, -1, 0}, {0, LOCK, 0, 4, 0}, {0, FREE, 0, 4, 0}, {0, FREE, -1, 0, 0},
            {0, IN, 0, -1, 0}, {0, IN, -1, 0, 0}, {0, OUT, 1, -1, 0}, {0, OUT, -1, 3, 0}, {0, LOST, 0, -1, 0},
            {0, LOST, -1, 0, 0}, {0, SEND, 0, 1, 0}, {0, SEND, -1, -1, 0}, {0, SEND, -1, 64, 0},
            {0, RECEIVE, -1, 64, 0}, {0, START, -1, -1, 0}, {0, ANSWER, -1, 64, 0}, {0, ANSWER, 0, 6, 0},
            {MIN, MIN, MIN, MIN, MIN}, {MAX, MAX, MAX, MAX, MAX},
        };
        for (int[] m : none) {
            c.due("mark kind " + m[1] + " not formed", x.mark(m[0], m[1], m[2], m[3], m[4]), -1);
        }
        counts(x, 0, none.length, 0);
        c.due("not home", x.mark(1, READY, 0, -1, 0), -3);
        c.due("edges taken", x.mark(0, SEND, -1, 63, 15), 0);
        c.due("other processor", x.mark(1, SEND, -1, 0, 0), 0);
        counts(x, 2, none.length + 1, 0);
    }

    // 6
    private static void markStates() {
        TaskTrace x = made(1, 3, 8);
        c.due("run idle", x.mark(0, RUN, 0, -1, 0), -3);
        c.due("block idle", x.mark(0, BLOCK, 0, -1, 0), -3);
        c.due("out ahead of in", x.mark(0, OUT, -1, -1, 0), -3);
        tell(x, READY, 0, -1, 0);
        c.due("ready ready", x.mark(0, READY, 0, -1, 0), -3);
        c.due("block ready", x.mark(0, BLOCK, 0, -1, 0), -3);
        tell(x, IN, -1, -1, 0);
        c.due("in in", x.mark(0, IN, -1, -1, 0), -3);
        c.due("run in", x.mark(0, RUN, 0, -1, 0), -3);
        tell(x, READY, 1, -1, 0, OUT, -1, -1, 0, RUN, 0, -1, 0);
        c.due("run running", x.mark(0, RUN, 0, -1, 0), -3);
        c.due("ready running", x.mark(0, READY, 0, -1, 0), -3);
        c.due("block one that isn't current", x.mark(0, BLOCK, 1, -1, 0), -3);
        tell(x, RUN, 1, -1, 0);
        c.due("pushed off", x.state(0), 1);
        tell(x, IN, -1, -1, 0);
        c.due("block in", x.mark(0, BLOCK, 1, -1, 0), -3);
        c.due("lock in", x.mark(0, LOCK, 1, 0, 0), -3);
        tell(x, OUT, -1, -1, 0, BLOCK, 1, -1, 0);
        c.due("blocked", x.state(1), 0);
        c.due("block twice", x.mark(0, BLOCK, 1, -1, 0), -3);
    }

    // 6
    private static void markLocks() {
        TaskTrace x = made(1, 3, 8);
        tell(x, READY, 0, -1, 0, READY, 1, -1, 0, RUN, 0, -1, 0);
        c.due("want what none holds", x.mark(0, WANT, 0, 2, 0), -3);
        c.due("free what none holds", x.mark(0, FREE, 0, 2, 0), -3);
        c.due("lock, not current", x.mark(0, LOCK, 1, 2, 0), -3);
        tell(x, LOCK, 0, 2, 0);
        c.due("lock again", x.mark(0, LOCK, 0, 2, 0), -3);
        c.due("want one's own", x.mark(0, WANT, 0, 2, 0), -3);
        tell(x, RUN, 1, -1, 0);
        c.due("free another's", x.mark(0, FREE, 1, 2, 0), -3);
        c.due("free, not current", x.mark(0, FREE, 0, 2, 0), -3);
        c.due("lock a held one", x.mark(0, LOCK, 1, 2, 0), -3);
        tell(x, IN, -1, -1, 0);
        c.due("want in", x.mark(0, WANT, 1, 2, 0), -3);
        tell(x, OUT, -1, -1, 0, WANT, 1, 2, 0);
        c.due("wanting", x.state(1), 3);
        c.due("run wanting", x.mark(0, RUN, 1, -1, 0), -3);
        c.due("ready wanting", x.mark(0, READY, 1, -1, 0), -3);
        c.due("lock while held", x.mark(0, LOCK, 1, 2, 0), -3);
        tell(x, RUN, 0, -1, 0);
        tell(x, IN, -1, -1, 0);
        c.due("free in", x.mark(0, FREE, 0, 2, 0), -3);
        tell(x, OUT, -1, -1, 0, FREE, 0, 2, 0);
        c.due("lock another than the wanted", x.mark(0, LOCK, 1, 3, 0), -3);
        tell(x, IN, -1, -1, 0, LOCK, 1, 2, 0);
        c.due("the wanting gets it also while in", x.state(1), 1);
        c.due("holder", x.holder(0, 2), 1);
        tell(x, OUT, -1, -1, 0, BLOCK, 0, -1, 0, RUN, 1, -1, 0, BLOCK, 1, -1, 0);
        c.due("a blocked task holds on", x.holder(0, 2), 1);
    }

    // 6
    private static void markLost() {
        TaskTrace x = made(2, 3, 8);
        c.due("home", x.home(2, 1), 0);
        tellOn(x, 1, READY, 2, -1, 0);
        tell(x, READY, 0, -1, 0, RUN, 0, -1, 0, LOCK, 0, 1, 0, IN, -1, -1, 0, LOST, -1, -1, 5);
        c.due("unknown", x.state(0), 4);
        c.due("unknown too", x.state(1), 4);
        c.due("another home", x.state(2), 1);
        c.due("no lock is held", x.holder(0, 1), -2);
        c.due("not in", x.mark(0, OUT, -1, -1, 5), -3);
        c.due("block unknown", x.mark(0, BLOCK, 0, -1, 5), -3);
        tell(x, READY, 1, -1, 6, RUN, 0, -1, 7);
        c.due("the one made ready stays so", x.state(1), 1);
        tell(x, LOST, -1, -1, 8, LOST, -1, -1, 8, RUN, 1, -1, 9, READY, 0, -1, 9, RUN, 0, -1, 9);
        c.due("a known one is pushed off", x.state(1), 1);
    }

    // 6
    private static void markLettersAndFull() {
        TaskTrace x = made(2, 1, 4);
        for (int kind = SEND; kind <= ANSWER; kind++) {
            tellOn(x, kind % 2, kind, -1, 9, 0);
            c.due("twice", x.mark(0, kind, -1, 9, 0), -5);
            c.due("twice on the other", x.mark(1, kind, -1, 9, 0), -5);
        }
        int before = x.count(10);
        for (int i = before; i < 200; i++) {
            x.mark(0, i % 2 == before % 2 ? IN : OUT, -1, -1, i % 16);
        }
        c.due("200 marks", x.count(10), 200);
        c.due("full", x.mark(0, LOST, -1, -1, 0), -4);
        c.due("bad ahead of full", x.mark(0, OUT, -1, -1, 0), -3);
        c.due("twice ahead of full", x.mark(0, SEND, -1, 9, 0), -5);
        c.due("none ahead of full", x.mark(0, SEND, -1, 64, 0), -1);
        c.due("full with a new letter", x.mark(0, SEND, -1, 10, 0), -4);
        c.due("the other isn't", x.mark(1, SEND, -1, 10, 0), 2);
        c.due("told(0, 199, 0)", x.told(0, 199, 0), 7);
        c.due("told(0, 200, 0)", x.told(0, 200, 0), -1);
    }

    // 7
    private static void told() {
        TaskTrace x = made(2, 2, 4);
        tell(x, READY, 1, -1, 9, RUN, 1, -1, 9, LOCK, 1, 3, 8, SEND, -1, 40, 7, IN, -1, -1, 8);
        int[][] due = {{0, 1, -1, 9}, {1, 1, -1, 9}, {4, 1, 3, 24}, {9, -1, 40, 39}, {6, -1, -1, 40}};
        for (int i = 0; i < due.length; i++) {
            for (int what = 0; what < 4; what++) {
                c.due("told(0, " + i + ", " + what + ")", x.told(0, i, what), due[i][what]);
            }
        }
        c.due("no such mark", x.told(0, 5, 0), -1);
        c.due("no such mark", x.told(0, -1, 3), -1);
        c.due("no such mark", x.told(1, 0, 3), -1);
        c.due("no such processor", x.told(2, 0, 3), -1);
        c.due("no such what", x.told(0, 0, 4), -1);
        c.due("no such what", x.told(0, 0, -1), -1);
    }

    // 8
    private static void state() {
        TaskTrace x = made(1, 2, 8);
        c.due("idle", x.state(0), 0);
        tell(x, READY, 0, -1, 0);
        c.due("ready", x.state(0), 1);
        tell(x, RUN, 0, -1, 0, LOCK, 0, 0, 0);
        c.due("running", x.state(0), 2);
        tell(x, IN, -1, -1, 0);
        c.due("running, though in", x.state(0), 2);
        tell(x, OUT, -1, -1, 0, READY, 1, -1, 0, RUN, 1, -1, 0, WANT, 1, 0, 0);
        c.due("wanting", x.state(1), 3);
        tell(x, LOST, -1, -1, 0);
        c.due("unknown", x.state(1), 4);
        c.due("no such task", x.state(2), -1);
        c.due("no such task", x.state(-1), -1);
    }

    // 9
    private static void holder() {
        TaskTrace x = made(2, 2, 8);
        x.home(1, 1);
        tellOn(x, 1, READY, 1, -1, 0, RUN, 1, -1, 0, LOCK, 1, 3, 0);
        c.due("holder(1, 3)", x.holder(1, 3), 1);
        c.due("holder(0, 3)", x.holder(0, 3), -2);
        c.due("holder(1, 2)", x.holder(1, 2), -2);
        tellOn(x, 1, FREE, 1, 3, 0);
        c.due("freed", x.holder(1, 3), -2);
        c.due("no such processor", x.holder(2, 0), -1);
        c.due("no such processor", x.holder(-1, 0), -1);
        c.due("no such lock", x.holder(0, 4), -1);
        c.due("no such lock", x.holder(0, -1), -1);
    }

    /** Idle 0-10, ready 10-13, running 13-20, in 20-24, running 24-30, want 30-37, lost at 50, dark to 60, running 60-63. */
    private static TaskTrace mixed() {
        TaskTrace x = made(1, 2, 8);
        tell(x, READY, 1, -1, 0, RUN, 1, -1, 2, LOCK, 1, 0, 4, READY, 0, -1, 10, RUN, 0, -1, 13, IN, -1, -1, 20);
        tell(x, OUT, -1, -1, 24, WANT, 0, 0, 30, RUN, 1, -1, 33, BLOCK, 1, -1, 37, LOST, -1, -1, 50, READY, 1, -1, 55);
        tell(x, RUN, 0, -1, 60, SEND, -1, 0, 63);
        return x;
    }

    // 10
    private static void sum() {
        TaskTrace x = mixed();
        int[] due = {10, 3 + 4, 7 + 6 + 3, 7, 13 + 10, 63};
        for (int what = 0; what < due.length; what++) {
            c.due("sum(0, " + what + ")", x.sum(0, what), due[what]);
        }
        int[] other = {0, 2 + 17 + 3 + 3, 11 + 4, 0, 23, 63};
        for (int what = 0; what < other.length; what++) {
            c.due("sum(1, " + what + ")", x.sum(1, what), other[what]);
        }
        c.due("no such task", x.sum(2, 0), -1);
        c.due("no such task", x.sum(-1, 0), -1);
        c.due("no such what", x.sum(0, 6), -1);
        c.due("no such what", x.sum(0, -1), -1);
        TaskTrace one = made(1, 1, 8);
        tell(one, READY, 0, -1, 9);
        c.due("the last mark has no stretch", one.sum(0, 1), 0);
        c.due("nor length", one.sum(0, 5), 0);
        TaskTrace after = made(1, 2, 8);
        tell(after, LOST, -1, -1, 0, RUN, 0, -1, 1, BLOCK, 0, -1, 4, IN, -1, -1, 9);
        c.due("unknown though not dark", after.sum(1, 4), 9);
        c.due("known again", after.sum(0, 4), 1);
    }

    // 11
    private static void busy() {
        TaskTrace x = mixed();
        int[] due = {2 + 3, 4, 8 + 3 + 7 + 6 + 4 + 3, 23};
        for (int what = 0; what < due.length; what++) {
            c.due("busy(0, " + what + ")", x.busy(0, what), due[what]);
        }
        c.due("no such processor", x.busy(1, 0), -1);
        c.due("no such processor", x.busy(-1, 0), -1);
        c.due("no such what", x.busy(0, 4), -1);
        c.due("no such what", x.busy(0, -1), -1);
        TaskTrace dark = made(1, 1, 8);
        tell(dark, LOST, -1, -1, 0, IN, -1, -1, 3, OUT, -1, -1, 5, IN, -1, -1, 6);
        c.due("dark goes ahead of in", dark.busy(0, 3), 6);
        c.due("so not in", dark.busy(0, 1), 0);
    }

    // 12
    private static void waits() {
        TaskTrace x = made(1, 4, 8);
        x.rank(0, 5);
        x.rank(1, 6);
        x.rank(2, 5);
        x.rank(3, 4);
        tell(x, READY, 0, -1, 0, READY, 1, -1, 1, READY, 2, -1, 1, READY, 3, -1, 1, RUN, 1, -1, 3, RUN, 2, -1, 8);
        tell(x, RUN, 3, -1, 15, IN, -1, -1, 24, OUT, -1, -1, 35, RUN, 0, -1, 36, IN, -1, -1, 40, OUT, -1, -1, 42);
        int[] due = {11 + 2, 5, 7, 9 + 1, 3};
        for (int what = 0; what < due.length; what++) {
            c.due("wait(0, " + what + ")", x.wait(0, what), due[what]);
        }
        c.due("none waits in the dark", mixed().wait(1, 4), 2 + 3);
        c.due("no such task", x.wait(4, 0), -1);
        c.due("no such task", x.wait(-1, 0), -1);
        c.due("no such what", x.wait(0, 5), -1);
        c.due("no such what", x.wait(0, -1), -1);
    }

    // 13
    private static void held() {
        TaskTrace x = made(1, 4, 8);
        x.rank(0, 5);
        x.rank(1, 2);
        x.rank(2, 5);
        x.rank(3, 4);
        tell(x, READY, 0, -1, 0, READY, 1, -1, 0, READY, 2, -1, 0, READY, 3, -1, 0, RUN, 1, -1, 0, LOCK, 1, 0, 0);
        tell(x, RUN, 2, -1, 0, LOCK, 2, 1, 0, RUN, 0, -1, 0, WANT, 0, 0, 10);
        tell(x, IN, -1, -1, 11, OUT, -1, -1, 13, RUN, 1, -1, 16, WANT, 1, 1, 20, RUN, 2, -1, 25);
        tell(x, FREE, 2, 1, 31, LOCK, 1, 1, 38, RUN, 3, -1, 46, RUN, 1, -1, 55, FREE, 1, 0, 65, IN, -1, -1, 76);
        tell(x, OUT, -1, -1, 88, LOCK, 0, 0, 101, RUN, 0, -1, 103);
        // 38-46 task 2 runs with the same rank, 46-55 task 3 with a lower one
        int[] due = {2 + 12, 4 + 10, 5 + 6 + 7, 8, 9, 1 + 3, 11 + 13};
        for (int what = 0; what < due.length; what++) {
            c.due("held(0, " + what + ")", x.held(0, what), due[what]);
        }
        c.due("sum of it", x.sum(0, 3), 91);
        c.due("no such task", x.held(4, 0), -1);
        c.due("no such task", x.held(-1, 0), -1);
        c.due("no such what", x.held(0, 7), -1);
        c.due("no such what", x.held(0, -1), -1);
    }

    // 13
    private static void heldOrder() {
        TaskTrace x = made(1, 2, 8);
        tell(x, READY, 0, -1, 0, READY, 1, -1, 0, RUN, 0, -1, 0, LOCK, 0, 0, 0, RUN, 1, -1, 0, WANT, 1, 0, 0);
        tell(x, RUN, 0, -1, 0, IN, -1, -1, 0, OUT, -1, -1, 5, FREE, 0, 0, 7, IN, -1, -1, 10, LOST, -1, -1, 30);
        c.due("in goes ahead of the current holder", x.held(1, 0), 5);
        c.due("the current holder", x.held(1, 1), 2);
        c.due("none holds it, though one is current", x.held(1, 6), 3);
        c.due("none is held in the dark", x.sum(1, 3), 10);
    }

    // 14
    private static void chain() {
        TaskTrace x = made(1, 5, 8);
        for (int t = 0; t < 5; t++) {
            tell(x, READY, t, -1, 0);
        }
        for (int t = 0; t < 4; t++) {
            tell(x, RUN, t, -1, 0, LOCK, t, t, 0);
        }
        tell(x, WANT, 3, 2, 0);
        c.due("the last mark has no stretch", x.chain(3), 0);
        tell(x, RUN, 2, -1, 0);
        c.due("a stretch of length 0 is one", x.chain(3), 1);
        tell(x, WANT, 2, 1, 1, RUN, 1, -1, 2, WANT, 1, 0, 3, RUN, 4, -1, 4, WANT, 4, 3, 5, RUN, 0, -1, 6);
        c.due("chain(4)", x.chain(4), 4);
        c.due("chain(3)", x.chain(3), 3);
        c.due("chain(2)", x.chain(2), 2);
        c.due("chain(1)", x.chain(1), 1);
        c.due("chain(0)", x.chain(0), 0);
        TaskTrace y = made(1, 3, 8);
        tell(y, READY, 0, -1, 0, READY, 1, -1, 0, READY, 2, -1, 0, RUN, 0, -1, 0, LOCK, 0, 0, 0, RUN, 1, -1, 0);
        tell(y, LOCK, 1, 1, 0, WANT, 1, 0, 0, RUN, 0, -1, 0, WANT, 0, 1, 0, RUN, 2, -1, 0, WANT, 2, 0, 0, LOST, -1, -1, 9);
        c.due("round", y.chain(0), 9);
        c.due("round, but dark when 2 wants", y.chain(2), 0);
        TaskTrace z = made(1, 3, 8);
        tell(z, READY, 0, -1, 0, READY, 1, -1, 0, READY, 2, -1, 0, RUN, 0, -1, 0, LOCK, 0, 0, 0, RUN, 1, -1, 0);
        tell(z, LOCK, 1, 1, 0, WANT, 1, 0, 0, RUN, 0, -1, 0, WANT, 0, 1, 0, RUN, 2, -1, 0, WANT, 2, 0, 0, IN, -1, -1, 9);
        c.due("one that leads into a round", z.chain(2), 9);
        c.due("no such task", x.chain(5), -1);
        c.due("no such task", x.chain(-1), -1);
    }

    // 15
    private static void jobs() {
        TaskTrace x = made(2, 2, 8);
        x.home(1, 1);
        tell(x, READY, 0, -1, 0, RUN, 0, -1, 0);
        c.due("not ended", x.jobs(0), 0);
        tell(x, BLOCK, 0, -1, 0);
        c.due("one", x.jobs(0), 1);
        tell(x, READY, 0, -1, 5, RUN, 0, -1, 5, BLOCK, 0, -1, 9);
        c.due("two", x.jobs(0), 2);
        c.due("the other's", x.jobs(1), 0);
        c.due("no such task", x.jobs(2), -1);
        c.due("no such task", x.jobs(-1), -1);
    }

    // 15
    private static void jobsAndDarkness() {
        TaskTrace x = made(1, 2, 8);
        tell(x, READY, 0, -1, 0, LOST, -1, -1, 1, RUN, 0, -1, 2, BLOCK, 0, -1, 3);
        c.due("lost between", x.jobs(0), 0);
        tell(x, LOST, -1, -1, 4, READY, 0, -1, 5, RUN, 0, -1, 6, BLOCK, 0, -1, 7);
        c.due("a dark stretch between", x.jobs(0), 0);
        tell(x, LOST, -1, -1, 8, READY, 0, -1, 9, RUN, 0, -1, 9, BLOCK, 0, -1, 9);
        c.due("a dark stretch of length 0 between", x.jobs(0), 0);
        tell(x, LOST, -1, -1, 10, RUN, 1, -1, 11, READY, 0, -1, 12, RUN, 0, -1, 13, BLOCK, 0, -1, 15);
        c.due("ready from unknown in the light", x.jobs(0), 1);
        c.due("its time", x.job(0, 0, 0), 12);
        tell(x, READY, 0, -1, 16, LOST, -1, -1, 17, RUN, 1, -1, 18, READY, 0, -1, 19, RUN, 0, -1, 20, BLOCK, 0, -1, 22);
        c.due("the later ready has it", x.jobs(0), 2);
        c.due("its time", x.job(0, 1, 0), 19);
        c.due("task 1 was never ready", x.jobs(1), 0);
    }

    // 16
    private static void job() {
        TaskTrace x = made(1, 2, 5);
        tell(x, READY, 0, -1, 30, RUN, 0, -1, 31, LOCK, 0, 0, 1, READY, 1, -1, 1, RUN, 1, -1, 2, WANT, 1, 0, 4);
        tell(x, RUN, 0, -1, 5, IN, -1, -1, 8, OUT, -1, -1, 12, FREE, 0, 0, 13, LOCK, 1, 0, 15, BLOCK, 0, -1, 16);
        tell(x, RUN, 1, -1, 17, BLOCK, 1, -1, 20);
        int[] first = {30, 48, 18, 3 + 3 + 4, 0};
        int[] second = {33, 52, 19, 2 + 3, 11};
        for (int what = 0; what < 5; what++) {
            c.due("job(0, 0, " + what + ")", x.job(0, 0, what), first[what]);
            c.due("job(1, 0, " + what + ")", x.job(1, 0, what), second[what]);
        }
        c.due("no such what", x.job(0, 0, 5), -1);
        c.due("no such what", x.job(0, 0, -1), -1);
        c.due("no such job", x.job(0, 1, 0), -1);
        c.due("no such job", x.job(0, -1, 0), -1);
        c.due("no such task", x.job(2, 0, 0), -1);
    }

    /** Jobs of task 0 with responses 4, 7, 7, 0, and of task 1 with 30. */
    private static TaskTrace fourJobs() {
        TaskTrace x = made(1, 3, 8);
        tell(x, READY, 1, -1, 0, RUN, 1, -1, 0, READY, 0, -1, 0, RUN, 0, -1, 1, BLOCK, 0, -1, 4);
        tell(x, READY, 0, -1, 10, RUN, 0, -1, 11, BLOCK, 0, -1, 17, READY, 0, -1, 20, RUN, 0, -1, 22, BLOCK, 0, -1, 27);
        tell(x, RUN, 1, -1, 28, BLOCK, 1, -1, 30, READY, 0, -1, 40, RUN, 0, -1, 40, BLOCK, 0, -1, 40);
        return x;
    }

    // 17
    private static void worst() {
        TaskTrace x = fourJobs();
        c.due("the first of the greatest", x.worst(0), 1);
        c.due("worst(1)", x.worst(1), 0);
        c.due("no job", x.worst(2), -1);
        c.due("no such task", x.worst(3), -1);
        c.due("no such task", x.worst(-1), -1);
    }

    // 18
    private static void late() {
        TaskTrace x = fourJobs();
        c.due("late(0, 0)", x.late(0, 0), 3);
        c.due("late(0, 4)", x.late(0, 4), 2);
        c.due("late(0, 6)", x.late(0, 6), 2);
        c.due("late(0, 7)", x.late(0, 7), 0);
        c.due("late(1, 29)", x.late(1, 29), 1);
        c.due("no job", x.late(2, 0), 0);
        c.due("d below 0", x.late(0, -1), -1);
        c.due("no such task", x.late(3, 0), -1);
    }

    // 19
    private static void law() {
        TaskTrace x = made(2, 3, 8);
        int[][] none = {
            {-1, 0, 0, 0}, {4, 0, 0, 0}, {0, 3, 0, 1}, {0, -1, 0, 1}, {0, 0, 1, 1}, {0, 0, 0, -1}, {1, 2, 0, 1},
            {1, -1, 0, 1}, {1, 0, 4, 1}, {1, 0, -1, 1}, {1, 0, 0, -1}, {2, 3, 0, 1}, {2, 0, -1, 1}, {2, 0, 0, -1},
            {3, 2, 0, 0}, {3, 0, 1, 0}, {3, 0, 0, 1}, {3, 0, 0, -1}, {3, -1, 0, 0},
        };
        for (int[] n : none) {
            c.due("no law of kind " + n[0], x.law(n[0], n[1], n[2], n[3]), -1);
        }
        int[][] fine = {{0, 2, 0, 0}, {1, 1, 3, MAX}, {2, 2, 0, 5}, {3, 1, 0, 0}, {3, 0, 0, 0}, {0, 0, 0, 1}, {2, 0, 0, 0}, {1, 0, 0, 0}};
        for (int i = 0; i < fine.length; i++) {
            c.due("law", x.law(fine[i][0], fine[i][1], fine[i][2], fine[i][3]), i);
        }
        c.due("full", x.law(0, 0, 0, 0), -4);
        c.due("none ahead of full", x.law(4, 0, 0, 0), -1);
        c.due("count(4)", x.count(4), 8);
    }

    private static void judged(TaskTrace x, int law, int[] sure, int[] maybe) {
        c.due("sure breaks of " + law, x.breaks(law, 0), sure.length);
        c.due("maybe breaks of " + law, x.breaks(law, 1), maybe.length);
        for (int i = 0; i < sure.length; i++) {
            c.due("sure break of " + law, x.broken(law, 0, i), sure[i]);
        }
        for (int i = 0; i < maybe.length; i++) {
            c.due("maybe break of " + law, x.broken(law, 1, i), maybe[i]);
        }
        c.due("no more sure breaks", x.broken(law, 0, sure.length), -1);
        c.due("no more maybe breaks", x.broken(law, 1, maybe.length), -1);
    }

    private static int[] row(int... times) {
        return times;
    }

    // 20: kind 0
    private static void lawOfBlocks() {
        TaskTrace x = made(1, 2, 8);
        x.law(0, 0, 0, 5);
        x.law(0, 0, 0, 4);
        judged(x, 0, row(), row());
        // 0-5 block; 10 lost at 20 behind a mark at 16; 30 lost at 33 with a sign at 40; 50 lost at 53 with one at 55
        tell(x, READY, 0, -1, 0, RUN, 0, -1, 1, BLOCK, 0, -1, 5, READY, 0, -1, 10, RUN, 0, -1, 16, LOST, -1, -1, 20);
        tell(x, RUN, 0, -1, 21, BLOCK, 0, -1, 29, READY, 0, -1, 30, IN, -1, -1, 31, LOST, -1, -1, 33, RUN, 1, -1, 34);
        tell(x, READY, 0, -1, 40, RUN, 0, -1, 40, BLOCK, 0, -1, 41, READY, 0, -1, 50, LOST, -1, -1, 53, RUN, 0, -1, 55);
        judged(x, 0, row(10), row(30));
        judged(x, 1, row(0, 10), row(30, 50));
        tell(x, BLOCK, 0, -1, 56, READY, 0, -1, 60, IN, -1, -1, 65);
        judged(x, 0, row(10), row(30));
        tell(x, OUT, -1, -1, 66);
        judged(x, 0, row(10, 60), row(30));
        tell(x, LOST, -1, -1, 67);
        c.due("by the mark ahead of the lost", x.broken(0, 0, 1), 60);
        TaskTrace y = made(1, 2, 8);
        y.law(0, 0, 0, 5);
        tell(y, READY, 0, -1, 0, RUN, 1 - 1, -1, 2, LOST, -1, -1, 6);
        judged(y, 0, row(), row(0));
        TaskTrace z = made(1, 2, 8);
        z.law(0, 0, 0, 5);
        tell(z, READY, 0, -1, 0, LOST, -1, -1, 1, READY, 1, -1, 4, IN, -1, -1, 5);
        judged(z, 0, row(), row());
        tell(z, OUT, -1, -1, 6);
        judged(z, 0, row(), row(0));
        tell(z, READY, 0, -1, 7, RUN, 0, -1, 14);
        judged(z, 0, row(7), row(0));
        c.due("no such law", x.breaks(2, 0), -1);
        c.due("no such law", x.breaks(-1, 0), -1);
        c.due("no such what", x.breaks(0, 2), -1);
        c.due("no such what", x.breaks(0, -1), -1);
    }

    // 20: kind 1
    private static void lawOfLocks() {
        TaskTrace x = made(2, 2, 8);
        x.home(0, 1);
        x.home(1, 1);
        x.law(1, 1, 2, 5);
        x.law(1, 1, 1, 0);
        x.law(1, 0, 2, 0);
        tellOn(x, 1, READY, 0, -1, 0, READY, 1, -1, 0, RUN, 0, -1, 0, LOCK, 0, 2, 1, FREE, 0, 2, 6, LOCK, 0, 2, 10);
        tellOn(x, 1, FREE, 0, 2, 16, LOCK, 0, 2, 20, RUN, 1, -1, 22, LOCK, 1, 1, 23, LOST, -1, -1, 26, RUN, 0, -1, 29);
        judged(x, 0, row(10), row(20));
        judged(x, 1, row(), row(23));
        tellOn(x, 1, LOCK, 0, 2, 30, IN, -1, -1, 36, LOST, -1, -1, 40, RUN, 0, -1, 41, LOCK, 0, 2, 42, LOST, -1, -1, 47);
        judged(x, 0, row(10, 30), row(20));
        tellOn(x, 1, RUN, 0, -1, 50, LOCK, 0, 2, 51, FREE, 0, 2, 51, LOCK, 0, 2, 52, IN, -1, -1, 58);
        judged(x, 0, row(10, 30, 52), row(20));
        judged(x, 2, row(), row());
    }

    // 20: kind 2
    private static void lawOfReadies() {
        TaskTrace x = made(1, 2, 8);
        x.law(2, 0, 0, 10);
        x.law(2, 1, 0, 10);
        tell(x, READY, 0, -1, 0, READY, 1, -1, 1, RUN, 0, -1, 2, BLOCK, 0, -1, 3, READY, 0, -1, 9, RUN, 0, -1, 9);
        tell(x, BLOCK, 0, -1, 12, READY, 0, -1, 19, LOST, -1, -1, 20, READY, 0, -1, 28, LOST, -1, -1, 30, READY, 0, -1, 38);
        tell(x, RUN, 0, -1, 38, BLOCK, 0, -1, 39, LOST, -1, -1, 40, LOST, -1, -1, 41, RUN, 1, -1, 42);
        judged(x, 0, row(0, 19), row(28));
        judged(x, 1, row(), row());
    }

    // 20: kind 3
    private static void lawOfIdling() {
        TaskTrace x = made(2, 3, 8);
        x.home(2, 1);
        x.law(3, 0, 0, 0);
        x.law(3, 1, 0, 0);
        tell(x, SEND, -1, 0, 0, READY, 0, -1, 5, SEND, -1, 1, 5, SEND, -1, 2, 7, IN, -1, -1, 8, OUT, -1, -1, 9);
        tell(x, RUN, 0, -1, 10, BLOCK, 0, -1, 12, READY, 0, -1, 13, LOST, -1, -1, 15, READY, 1, -1, 17, RUN, 0, -1, 20);
        tell(x, BLOCK, 0, -1, 22, SEND, -1, 3, 25, READY, 2 - 2, -1, 30);
        judged(x, 0, row(5, 7, 9, 22, 25), row());
        judged(x, 1, row(), row());
        tellOn(x, 1, READY, 2, -1, 3, SEND, -1, 4, 4);
        judged(x, 1, row(3), row());
    }

    // 21
    private static void broken() {
        TaskTrace x = made(1, 1, 8);
        x.law(3, 0, 0, 0);
        tell(x, READY, 0, -1, 200, IN, -1, -1, 1);
        c.due("its time", x.broken(0, 0, 0), 200);
        c.due("no such break", x.broken(0, 0, 1), -1);
        c.due("no such break", x.broken(0, 0, -1), -1);
        c.due("no such break", x.broken(0, 1, 0), -1);
        c.due("no such what", x.broken(0, 2, 0), -1);
        c.due("no such what", x.broken(0, -1, 0), -1);
        c.due("no such law", x.broken(1, 0, 0), -1);
        c.due("no such law", x.broken(-1, 0, 0), -1);
    }

    // 22
    private static void agree() {
        TaskTrace x = made(3, 1, 16);
        tellOn(x, 0, RECEIVE, -1, 0, 5, SEND, -1, 0, 5);
        c.due("on one processor at one time", x.agree(), 1);
        tellOn(x, 0, RECEIVE, -1, 1, 9, SEND, -1, 1, 10);
        c.due("received ahead of its sending", x.agree(), 0);
        TaskTrace y = made(3, 1, 16);
        tellOn(y, 0, SEND, -1, 1, 100, RECEIVE, -1, 3, 160);
        tellOn(y, 1, RECEIVE, -1, 1, 50, SEND, -1, 2, 80);
        c.due("letters without another end", y.agree(), 1);
        tellOn(y, 2, RECEIVE, -1, 2, 10, SEND, -1, 3, 40);
        c.due("round with 0 to spare: 50 + 70 - 120", y.agree(), 1);
        tellOn(y, 2, SEND, -1, 4, 41);
        tellOn(y, 0, RECEIVE, -1, 4, 160);
        c.due("round with -1 to spare", y.agree(), 0);
    }

    // 23
    private static void gap() {
        TaskTrace x = made(2, 1, 16);
        c.due("to itself", x.gap(1, 1, 0), 0);
        c.due("to itself", x.gap(1, 1, 1), 0);
        c.thrown("no letters", () -> x.gap(0, 1, 0), Checks.STATE);
        tellOn(x, 0, SEND, -1, 1, 100);
        tellOn(x, 1, RECEIVE, -1, 1, 40);
        c.due("least", x.gap(0, 1, 0), 60);
        c.thrown("no greatest", () -> x.gap(0, 1, 1), Checks.STATE);
        c.due("the other way", x.gap(1, 0, 1), -60);
        c.thrown("no least the other way", () -> x.gap(1, 0, 0), Checks.STATE);
        c.thrown("p", () -> x.gap(2, 0, 0), Checks.ARGUMENT);
        c.thrown("p", () -> x.gap(-1, 0, 0), Checks.ARGUMENT);
        c.thrown("q", () -> x.gap(0, 2, 0), Checks.ARGUMENT);
        c.thrown("what", () -> x.gap(0, 0, 2), Checks.ARGUMENT);
        c.thrown("what", () -> x.gap(0, 0, -1), Checks.ARGUMENT);
        tellOn(x, 0, RECEIVE, -1, 2, 100, SEND, -1, 2, 101);
        c.thrown("no agreement", () -> x.gap(0, 1, 0), Checks.STATE);
        c.thrown("no agreement with itself either", () -> x.gap(1, 1, 0), Checks.STATE);
        c.thrown("the argument first", () -> x.gap(1, 1, 2), Checks.ARGUMENT);
    }

    // 23
    private static void gapThroughAThird() {
        TaskTrace x = made(3, 1, 16);
        tellOn(x, 0, SEND, -1, 1, 100, SEND, -1, 3, 200);
        tellOn(x, 2, RECEIVE, -1, 1, 130, SEND, -1, 2, 150);
        tellOn(x, 1, RECEIVE, -1, 2, 110, RECEIVE, -1, 3, 195);
        c.due("through the third: -30 + 40", x.gap(0, 1, 0), 10);
        c.due("a weaker one to it", x.gap(0, 2, 0), -30);
        c.thrown("none back", () -> x.gap(0, 1, 1), Checks.STATE);
        tellOn(x, 1, SEND, -1, 4, 300);
        tellOn(x, 0, RECEIVE, -1, 4, 330);
        c.due("greatest", x.gap(0, 1, 1), 30);
        c.due("greatest to the third", x.gap(0, 2, 1), -10);
        c.due("least from 1 to 2: -30 - 30", x.gap(1, 2, 0), -60);
        c.due("greatest from 1 to 2", x.gap(1, 2, 1), -40);
    }

    // 24
    private static void answer() {
        TaskTrace x = made(2, 1, 4);
        c.thrown("not told", () -> x.answer(3, 0), Checks.STATE);
        tellOn(x, 0, START, -1, 3, 9);
        c.thrown("no answer told", () -> x.answer(3, 0), Checks.STATE);
        tellOn(x, 0, ANSWER, -1, 3, 8, ANSWER, -1, 4, 9);
        c.due("on one processor", x.answer(3, 0), 15);
        c.due("on one processor", x.answer(3, 1), 15);
        c.thrown("no start told", () -> x.answer(4, 0), Checks.STATE);
        tellOn(x, 1, START, -1, 4, 2);
        c.thrown("no gap", () -> x.answer(4, 0), Checks.STATE);
        tellOn(x, 1, SEND, -1, 0, 6);
        tellOn(x, 0, RECEIVE, -1, 0, 12);
        c.due("the difference and the least gap: 25 - 2 + 6 - 28", x.answer(4, 0), 1);
        c.thrown("no greatest", () -> x.answer(4, 1), Checks.STATE);
        c.thrown("x", () -> x.answer(64, 0), Checks.ARGUMENT);
        c.thrown("x", () -> x.answer(-1, 0), Checks.ARGUMENT);
        c.thrown("what", () -> x.answer(63, 2), Checks.ARGUMENT);
        c.thrown("what", () -> x.answer(0, -1), Checks.ARGUMENT);
        tellOn(x, 1, RECEIVE, -1, 9, 6, SEND, -1, 9, 7);
        c.thrown("no agreement", () -> x.answer(4, 0), Checks.STATE);
        c.due("on one processor all the same", x.answer(3, 0), 15);
    }

    // 25
    private static void again() {
        TaskTrace x = made(1, 3, 8);
        x.rank(0, 1);
        x.rank(1, 2);
        // 0 needs 4 + 3, 1 needs 5 and is alone twice
        tell(x, READY, 0, -1, 0, RUN, 0, -1, 2, READY, 1, -1, 6, RUN, 1, -1, 6, IN, -1, -1, 8, OUT, -1, -1, 10);
        tell(x, BLOCK, 1, -1, 13, RUN, 0, -1, 13, BLOCK, 0, -1, 16);
        c.due("0 starts at once: 0-6, in the way 6-13", x.again(0, 0), 14);
        c.due("1 at 6", x.again(1, 0), 13);
        x.other(0, 3);
        c.due("0 goes ahead", x.again(0, 0), 7);
        c.due("1 behind it", x.again(1, 0), 14);
        c.due("no such job", x.again(0, 1), -1);
        c.due("no such job", x.again(0, -1), -1);
        c.due("no job", x.again(2, 0), -1);
        c.due("no such task", x.again(3, 0), -1);
        TaskTrace y = made(1, 2, 8);
        tell(y, READY, 0, -1, 0, RUN, 0, -1, 0, READY, 1, -1, 0, RUN, 1, -1, 5, BLOCK, 1, -1, 15, RUN, 0, -1, 15, BLOCK, 0, -1, 20);
        tell(y, LOST, -1, -1, 30, RUN, 1, -1, 31, READY, 0, -1, 33, RUN, 0, -1, 33, BLOCK, 0, -1, 35, IN, -1, -1, 35);
        y.other(1, 4);
        c.due("0 is held up by the other", y.again(0, 0), 20);
        c.due("the job behind the dark", y.again(0, 1), 35);
    }

    // 25
    private static void againTies() {
        TaskTrace x = made(1, 3, 8);
        tell(x, READY, 2, -1, 0, READY, 1, -1, 0, RUN, 2, -1, 0, BLOCK, 2, -1, 4, RUN, 1, -1, 4, BLOCK, 1, -1, 9);
        tell(x, READY, 2, -1, 9, RUN, 2, -1, 9, BLOCK, 2, -1, 9);
        c.due("the least number", x.again(1, 0), 5);
        c.due("then the other", x.again(2, 0), 9);
        c.due("needs nothing", x.again(2, 1), 9);
        TaskTrace y = made(1, 2, 8);
        tell(y, READY, 1, -1, 0, RUN, 1, -1, 0, BLOCK, 1, -1, 4, READY, 1, -1, 4, RUN, 1, -1, 4, BLOCK, 1, -1, 4);
        tell(y, READY, 0, -1, 4, RUN, 0, -1, 4, BLOCK, 0, -1, 9);
        c.due("one that needs nothing is done when it comes", y.again(1, 1), 4);
        TaskTrace z = made(1, 2, 8);
        tell(z, READY, 0, -1, 0, RUN, 0, -1, 2, READY, 1, -1, 3, BLOCK, 0, -1, 6, RUN, 1, -1, 6, IN, -1, -1, 7);
        tell(z, OUT, -1, -1, 8, BLOCK, 1, -1, 9, READY, 1, -1, 9, RUN, 1, -1, 9, BLOCK, 1, -1, 10);
        z.other(0, 9);
        c.due("0", z.again(0, 0), 4);
        c.due("1", z.again(1, 0), 6);
        c.due("1 again", z.again(1, 1), 10);
    }

    // 26
    private static void slowest() {
        TaskTrace x = fourJobs();
        // needs of 0: 3, 6, 5, 0 at 0, 10, 20, 40; of 1: 1 + 2 at 0
        c.due("0 goes first", x.slowest(0), 6);
        c.due("1 behind it", x.slowest(1), 6);
        x.other(1, 1);
        c.due("0 behind 1: 6, 6, 5, 0", x.slowest(0), 6);
        c.due("1 first", x.slowest(1), 3);
        c.due("no job", x.slowest(2), -1);
        c.due("no such task", x.slowest(3), -1);
        c.due("no such task", x.slowest(-1), -1);
    }

    private static TaskTrace readyAt(int... times) {
        TaskTrace x = made(1, 2, 16);
        for (int t : times) {
            tell(x, READY, 0, -1, t & 0xffff, RUN, 0, -1, t & 0xffff, BLOCK, 0, -1, t & 0xffff);
        }
        return x;
    }

    private static void periodIs(int p, int jitter, int... times) {
        TaskTrace x = readyAt(times);
        c.due("period", x.period(0, 0), p);
        c.due("jitter", x.period(0, 1), jitter);
    }

    // 27
    private static void period() {
        periodIs(10, 0, 5, 15, 25, 35);
        periodIs(10, 1, 10, 20, 31);
        periodIs(1, 2, 7, 7, 7);
        periodIs(1, 1, 7, 8, 8);
        periodIs(10, 10, 0, 0, 20);
        periodIs(5, 5, 0, 0, 10, 15);
        periodIs(60000, 0, 0, 60000, 120000, 180000);
        c.due("fewer than 3 jobs", readyAt(1, 2).period(0, 0), -1);
        TaskTrace x = readyAt(1, 2, 3);
        c.due("no job", x.period(1, 0), -1);
        c.due("no such task", x.period(2, 0), -1);
        c.due("no such what", x.period(0, 2), -1);
        c.due("no such what", x.period(0, -1), -1);
    }

    // 28
    private static void tape() {
        TaskTrace x = new TaskTrace();
        for (int sort = 1; sort <= 4; sort++) {
            c.due("tape", x.tape(5, sort, 100), 100);
            c.due("put", x.put(5, 99, 7), 1);
            c.due("tape anew", x.tape(5, sort, 100), 100);
            c.due("all 0", x.at(5, 99), 0);
            c.due("cleared", x.clear(5), sort);
        }
        c.due("empty", x.tape(0, 2, 0), 0);
        c.due("it is a row", x.clear(0), 2);
        c.due("no such tape", x.tape(6, 1, 1), -1);
        c.due("no such tape", x.tape(-1, 1, 1), -1);
        c.due("no such sort", x.tape(0, 0, 1), -1);
        c.due("no such sort", x.tape(0, 5, 1), -1);
        c.due("too long", x.tape(0, 1, 101), -1);
        c.due("none ahead of size", x.tape(0, 5, -1), -1);
        counts(x, 0, 0, 0);
        x.tape(0, 1, 3);
        c.due("size", x.tape(0, 2, -1), -14);
        c.due("size", x.tape(0, 2, MIN), -14);
        counts(x, 0, 0, 2);
        c.due("refused changes nothing", x.clear(0), 1);
    }

    // 29
    private static void keep() {
        TaskTrace x = made(2, 2, 8);
        c.due("keep(0)", x.keep(0), 0);
        tell(x, READY, 0, -1, 1);
        tellOn(x, 1, IN, -1, -1, 1);
        x.tape(1, 1, 1);
        c.due("over a row", x.keep(1), 2);
        c.due("a copy is held", x.clear(1), 5);
        c.due("keep again", x.keep(0), 2);
        tell(x, RUN, 0, -1, 2);
        c.due("the copy stays", x.back(0), 2);
        c.due("no such tape", x.keep(6), -1);
        c.due("no such tape", x.keep(-1), -1);
    }

    // 30
    private static void back() {
        TaskTrace x = made(2, 3, 6);
        x.home(1, 1);
        x.rank(1, 7);
        tell(x, READY, 0, -1, 60, RUN, 0, -1, 62, LOCK, 0, 3, 1);
        tellOn(x, 1, SEND, -1, 8, 5, READY, 1, -1, 7);
        c.due("keep(2)", x.keep(2), 5);
        x.mark(0, READY, 0, -1, 0);
        x.back(3);
        counts(x, 5, 1, 1);
        tell(x, FREE, 0, 3, 2, BLOCK, 0, -1, 3);
        tellOn(x, 1, RECEIVE, -1, 8, 9);
        x.rank(1, 2);
        x.other(1, 3);
        x.law(3, 0, 0, 0);
        c.due("back(2)", x.back(2), 5);
        counts(x, 5, 1, 1);
        c.due("laws are gone", x.count(4), 0);
        c.due("other is untold", x.other(1, 1), 7);
        c.due("holder", x.holder(0, 3), 0);
        c.due("state", x.state(0), 2);
        c.due("time", x.told(0, 2, 3), 65);
        c.due("a letter told in the copy", x.mark(1, SEND, -1, 8, 9), -5);
        tellOn(x, 1, RECEIVE, -1, 8, 9);
        tell(x, FREE, 0, 3, 2);
        c.due("goes on from the copy's time", x.told(0, 3, 3), 66);
        c.due("begin", x.begin(1, 1, 4), 1);
        c.due("back(2) once more", x.back(2), 5);
        c.due("P", x.count(0), 2);
        c.due("T", x.count(1), 3);
        c.due("W", x.count(2), 6);
        c.due("home", x.home(1, 0), -2);
        c.due("counted since begin", x.count(5), 0);
        c.due("nothing", x.back(3), -11);
        x.tape(3, 4, 1);
        c.due("cast", x.back(3), -12);
        c.due("no such tape", x.back(6), -1);
        c.due("no such tape", x.back(-1), -1);
        counts(x, 5, 0, 2);
        x.clear(2);
        c.due("cleared", x.back(2), -11);
    }

    // 30
    private static void backToWantingAndToOne() {
        TaskTrace x = made(2, 2, 8);
        tell(x, READY, 0, -1, 0, READY, 1, -1, 0, RUN, 0, -1, 0, LOCK, 0, 2, 0, RUN, 1, -1, 0, WANT, 1, 2, 3);
        tellOn(x, 1, START, -1, 33, 7);
        x.keep(0);
        c.due("begin", x.begin(2, 2, 8), 2);
        tell(x, READY, 1, -1, 0, RUN, 1, -1, 0, LOCK, 1, 0, 0, READY, 0, -1, 0, RUN, 0, -1, 0, WANT, 0, 0, 0);
        tellOn(x, 1, ANSWER, -1, 44, 9, IN, -1, -1, 9);
        c.due("back(0)", x.back(0), 7);
        int[] due = {START, -1, 33, 7};
        for (int what = 0; what < 4; what++) {
            c.due("the one mark of processor 1", x.told(1, 0, what), due[what]);
        }
        c.due("no more of them", x.told(1, 1, 0), -1);
        c.due("the lock of the copy", x.told(0, 3, 2), 2);
        tell(x, RUN, 0, -1, 4, FREE, 0, 2, 5);
        c.due("not the wanted lock", x.mark(0, LOCK, 1, 0, 6), -3);
        c.due("the wanted lock", x.mark(0, LOCK, 1, 2, 6), 8);
        c.due("a letter that the copy hasn't", x.mark(1, ANSWER, -1, 44, 9), 1);
    }

    // 31
    private static void differ() {
        TaskTrace x = made(1, 3, 8);
        tell(x, READY, 0, -1, 0, RUN, 0, -1, 4);
        x.keep(0);
        tell(x, IN, -1, -1, 9, OUT, -1, -1, 11, BLOCK, 0, -1, 14, LOST, -1, -1, 20);
        int[] due = {0, 2, 8, 0, 6, 16};
        for (int what = 0; what < due.length; what++) {
            c.due("differ(0, 0, " + what + ")", x.differ(0, 0, what), due[what]);
        }
        x.begin(1, 3, 8);
        c.due("below 0", x.differ(0, 0, 5), -4);
        c.thrown("tape", () -> x.differ(6, 0, 0), Checks.ARGUMENT);
        c.thrown("tape", () -> x.differ(-1, 0, 0), Checks.ARGUMENT);
        c.thrown("what", () -> x.differ(0, 0, 6), Checks.ARGUMENT);
        c.thrown("what", () -> x.differ(0, 0, -1), Checks.ARGUMENT);
        c.thrown("task", () -> x.differ(0, 3, 0), Checks.ARGUMENT);
        c.thrown("nothing held", () -> x.differ(1, 0, 0), Checks.STATE);
        c.thrown("the argument first", () -> x.differ(1, 3, 0), Checks.ARGUMENT);
        x.tape(1, 1, 1);
        c.thrown("a row held", () -> x.differ(1, 0, 0), Checks.STATE);
        x.begin(1, 2, 8);
        c.thrown("no such task here", () -> x.differ(0, 2, 0), Checks.ARGUMENT);
        x.begin(1, 5, 8);
        c.thrown("no such task in the copy", () -> x.differ(0, 3, 0), Checks.ARGUMENT);
        c.due("none of these is the host's", x.count(6), 0);
    }

    // 32
    private static void toss() {
        TaskTrace x = made(2, 1, 8);
        x.keep(0);
        c.due("no marks", x.toss(0), -15);
        tell(x, IN, -1, -1, 0);
        tellOn(x, 1, IN, -1, -1, 0, OUT, -1, -1, 0);
        x.keep(1);
        c.due("three marks", x.toss(1), 3);
        c.due("it stays", x.clear(1), 5);
        c.due("nothing", x.toss(1), -11);
        x.tape(1, 3, 5);
        c.due("cast", x.toss(1), -12);
        c.due("no such tape", x.toss(6), -1);
        c.due("no such tape", x.toss(-1), -1);
        counts(x, 3, 0, 3);
    }

    private static void fill(TaskTrace x, int d, int... values) {
        for (int i = 0; i < values.length; i++) {
            c.due("put", x.put(d, i, values[i]), 1);
        }
    }

    // 33
    private static void play() {
        TaskTrace x = made(2, 2, 8);
        x.home(1, 1);
        x.tape(0, 3, 14);
        fill(x, 0, READY, 0, -1, 5, 99, RUN, 0, -1, 8, -99, BLOCK, 0, -1, 9);
        c.due("the fifth of the last isn't wanted", x.play(0, 0, 3, 0), 3);
        c.due("time", x.told(0, 2, 3), 9);
        c.due("place, with three taken", x.play(0, 0, 4, 0), -13);
        counts(x, 6, 0, 1);
        c.due("refused at once", x.play(0, 5, 2, 0), 0);
        counts(x, 6, 1, 1);
        c.due("refused ahead of the place", x.play(0, 10, 2, 0), 0);
        c.due("refused behind one", x.play(0, 0, 3, 1), 0);
        counts(x, 6, 3, 1);
        c.due("none of them", x.play(0, MAX, 0, 0), 0);
        c.due("none of them", x.play(0, -7, 0, 0), 0);
        c.due("place below 0", x.play(0, -1, 1, 0), -13);
        c.due("place", x.play(0, MIN, 20, 0), -13);
        c.due("place", x.play(0, MAX, 20, 0), -13);
        c.due("place in the midst of a mark", x.play(0, 11, 1, 0), -13);
        counts(x, 6, 3, 5);
        c.due("no such tape", x.play(6, 0, 1, 0), -1);
        c.due("no such tape", x.play(-1, 0, 1, 0), -1);
        c.due("no such processor", x.play(0, 0, 1, 2), -1);
        c.due("no such processor", x.play(0, 0, 1, -1), -1);
        c.due("n", x.play(0, 0, 21, 0), -1);
        c.due("n", x.play(0, 0, -1, 0), -1);
        c.due("none ahead of nothing", x.play(1, 0, 21, 0), -1);
        counts(x, 6, 3, 5);
        c.due("nothing", x.play(1, 0, 1, 0), -11);
        for (int sort = 1; sort <= 4; sort++) {
            x.tape(1, sort, 5);
            c.due("cast", x.play(1, 0, 0, 0), sort == 3 ? 0 : -12);
        }
        x.keep(1);
        c.due("cast of a copy", x.play(1, 0, 0, 0), -12);
        counts(x, 6, 3, 10);
        x.tape(2, 3, 100);
        for (int i = 0; i < 20; i++) {
            fillMark(x, 2, 5 * i, i % 2 == 0 ? IN : OUT, i);
        }
        c.due("twenty", x.play(2, 0, 20, 0), 20);
        x.put(2, 10 * 5, 8);
        x.put(2, 11 * 5, 7);
        c.due("up to the first that is refused", x.play(2, 0, 20, 0), 11);
        counts(x, 37, 4, 10);
    }

    private static void fillMark(TaskTrace x, int d, int from, int kind, int clock) {
        x.put(d, from, kind);
        x.put(d, from + 1, -1);
        x.put(d, from + 2, -1);
        x.put(d, from + 3, clock);
        x.put(d, from + 4, MIN);
    }

    // 34
    private static void clear() {
        TaskTrace x = new TaskTrace();
        c.due("nothing", x.clear(0), 0);
        for (int sort = 1; sort <= 4; sort++) {
            x.tape(0, sort, 1);
            c.due("a row", x.clear(0), sort);
            c.due("nothing then", x.clear(0), 0);
        }
        x.keep(0);
        c.due("a copy", x.clear(0), 5);
        c.due("no such tape", x.clear(6), -1);
        c.due("no such tape", x.clear(-1), -1);
        counts(x, 0, 0, 0);
    }

    // 35
    private static void put() {
        TaskTrace x = new TaskTrace();
        long v = 0x123456789abcdef0L;
        long[] due = {0, (byte) 0xf0, (short) 0xdef0, 0x9abcdef0, v};
        for (int sort = 1; sort <= 4; sort++) {
            x.tape(0, sort, 3);
            c.due("put", x.put(0, 2, v), 1);
            c.due("narrowed to sort " + sort, x.at(0, 2), due[sort]);
            c.due("the others stay", x.at(0, 1), 0);
        }
        c.due("place", x.put(0, 3, 1), -13);
        c.due("place", x.put(0, -1, 1), -13);
        c.due("nothing", x.put(1, 0, 1), -11);
        c.due("nothing ahead of place", x.put(1, -1, 1), -11);
        x.keep(1);
        c.due("cast", x.put(1, 0, 1), -12);
        c.due("cast ahead of place", x.put(1, -1, 1), -12);
        c.due("no such tape", x.put(6, 0, 1), -1);
        c.due("no such tape", x.put(-1, 0, 1), -1);
        counts(x, 0, 0, 6);
        x.tape(0, 1, 0);
        c.due("an empty row", x.put(0, 0, 1), -13);
    }

    // 36
    private static void at() {
        TaskTrace x = new TaskTrace();
        x.tape(5, 4, 2);
        x.put(5, 1, Long.MIN_VALUE);
        c.due("at", x.at(5, 1), Long.MIN_VALUE);
        c.thrown("place", () -> x.at(5, 2), Checks.STATE);
        c.thrown("place", () -> x.at(5, -1), Checks.STATE);
        c.thrown("nothing", () -> x.at(4, 0), Checks.STATE);
        x.keep(4);
        c.thrown("a copy", () -> x.at(4, 0), Checks.STATE);
        c.thrown("tape", () -> x.at(6, 0), Checks.ARGUMENT);
        c.thrown("tape", () -> x.at(-1, 0), Checks.ARGUMENT);
        c.due("not counted", x.count(6), 0);
    }

    private static void rowIs(TaskTrace x, int d, long... due) {
        for (int i = 0; i < due.length; i++) {
            c.due("element " + i + " of tape " + d, x.at(d, i), due[i]);
        }
    }

    // 37
    private static void copy() {
        TaskTrace x = new TaskTrace();
        x.tape(0, 2, 5);
        x.tape(1, 2, 3);
        fill(x, 0, 1, 2, 3, 4, 5);
        c.due("copy", x.copy(0, 2, 1, 1, 2), 2);
        rowIs(x, 1, 0, 3, 4);
        c.due("onto itself, up", x.copy(0, 0, 0, 1, 4), 4);
        rowIs(x, 0, 1, 1, 2, 3, 4);
        c.due("onto itself, down", x.copy(0, 2, 0, 0, 3), 3);
        rowIs(x, 0, 2, 3, 4, 3, 4);
        c.due("none", x.copy(0, 5, 1, 3, 0), 0);
        counts(x, 0, 0, 0);
        int[][] places = {{-1, 0, 1}, {0, -1, 1}, {0, 0, -1}, {6, 0, 0}, {0, 4, 0}, {0, 0, 4}, {3, 0, 3}, {0, 2, 2}, {MAX, MAX, MAX}, {1, 1, MAX}, {MIN, 0, MIN}};
        for (int[] p : places) {
            c.due("place", x.copy(0, p[0], 1, p[1], p[2]), -13);
        }
        counts(x, 0, 0, places.length);
        c.due("nothing", x.copy(0, 0, 2, 0, 1), -11);
        c.due("nothing", x.copy(2, 0, 0, 0, 1), -11);
        x.tape(2, 1, 5);
        c.due("two sorts", x.copy(0, 0, 2, 0, -1), -12);
        x.keep(3);
        c.due("no row", x.copy(0, 0, 3, 0, 0), -12);
        c.due("no row", x.copy(3, 0, 0, 0, 0), -12);
        c.due("two that are no rows", x.copy(3, 0, 3, 0, 0), -12);
        c.due("nothing ahead of cast", x.copy(3, 0, 4, 0, 0), -11);
        c.due("nothing ahead of cast", x.copy(4, 0, 3, 0, 0), -11);
        c.due("no such tape", x.copy(6, 0, 4, 0, 0), -1);
        c.due("no such tape", x.copy(4, 0, -1, 0, 0), -1);
        rowIs(x, 0, 2, 3, 4, 3, 4);
    }

    // 38
    private static void count() {
        TaskTrace x = made(2, 3, 9);
        x.law(3, 1, 0, 0);
        x.law(3, 0, 0, 0);
        tell(x, READY, 0, -1, 0);
        tellOn(x, 1, SEND, -1, 0, 0, SEND, -1, 1, 0);
        x.mark(0, READY, 0, -1, 0);
        x.mark(0, 99, 0, -1, 0);
        x.mark(1, SEND, -1, 1, 0);
        x.tape(0, 3, -1);
        x.toss(0);
        x.back(0);
        x.put(0, 0, 0);
        x.play(0, 0, 0, 0);
        x.copy(0, 0, 0, 0, 0);
        int[] due = {2, 3, 9, 3, 2, 3, 6, -1, -1, -1, 1, 2, -1, -1};
        for (int what = 0; what < due.length; what++) {
            c.due("count(" + what + ")", x.count(what), due[what]);
        }
        c.due("no such what", x.count(-1), -1);
        c.due("no such what", x.count(MIN), -1);
        c.due("no such what", x.count(MAX), -1);
    }
}
