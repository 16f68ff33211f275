import java.util.function.Supplier;
import java.util.function.ToLongFunction;

/** "What is refused changes nothing", for each refusal of each promise; and asking changes nothing either. */
final class EdgesOfRefusals {
    private static final int READY = Desk.READY, RUN = Desk.RUN, BLOCK = Desk.BLOCK, WANT = Desk.WANT, LOCK = Desk.LOCK;
    private static final int FREE = Desk.FREE, IN = Desk.IN, OUT = Desk.OUT, LOST = Desk.LOST, SEND = Desk.SEND;
    private static final int RECEIVE = Desk.RECEIVE, START = Desk.START, ANSWER = Desk.ANSWER;
    private static final String NONE = "-1", STARTED = "-2", BAD = "-3", FULL = "-4", TWICE = "-5";
    private static final String NOTHING = "-11", CAST = "-12", PLACE = "-13", SIZE = "-14", THROWN = "-15";
    private static final String ARGUMENT = Checks.ARGUMENT, STATE = Checks.STATE;

    private final Desk c;
    private Supplier<TaskTrace> maker;
    private int promise;

    private EdgesOfRefusals(Desk c) {
        this.c = c;
    }

    static void run(Desk desk) {
        EdgesOfRefusals edges = new EdgesOfRefusals(desk);
        edges.aheadOfMarks();
        edges.marks();
        edges.whenFull();
        edges.questions();
        edges.thrown();
        edges.tapes();
        edges.rows();
        edges.asking();
    }

    // ---- what is compared

    /** All that can be asked of an object, within the calls that it is promised for; asking so changes it. */
    private static String face(TaskTrace x) {
        StringBuilder all = new StringBuilder();
        for (int what : new int[] {0, 1, 2, 3, 4, 10, 11, 12}) {
            add(all, "count " + what, x.count(what));
        }
        for (int p = 0; p < x.count(0); p++) {
            for (int i = Math.max(0, x.count(10 + p) - 6); i < x.count(10 + p); i++) {
                add(all, "mark " + i + " of " + p, x.told(p, i, 0), x.told(p, i, 1), x.told(p, i, 2), x.told(p, i, 3));
            }
            add(all, "locks of " + p, x.holder(p, 0), x.holder(p, 1), x.holder(p, 2), x.holder(p, 3));
        }
        for (int l = 0; l < x.count(4); l++) {
            add(all, "law " + l, x.breaks(l, 0), x.breaks(l, 1), x.broken(l, 0, 0), x.broken(l, 1, 0));
        }
        int tasks = x.count(1);
        for (int t = 0; t < tasks; t++) {
            add(all, "task " + t, x.state(t), x.sum(t, 5), x.jobs(t), x.slowest(t));
        }
        for (int t = 0; t < tasks; t++) {
            // another RANK tells whether the OTHER RANK is untold
            add(all, "ranks of " + t, x.rank(t, 11), x.other(t, 0), x.home(t, 0));
        }
        add(all, "how it goes on", x.mark(0, SEND, -1, 9, 0), x.mark(0, OUT, -1, -1, 1), x.mark(0, READY, 1, -1, 1), x.told(0, x.count(10) - 1, 3));
        for (int d = 0; d < 6; d++) {
            addTape(all, x, d);
        }
        return all.toString();
    }

    private static void addTape(StringBuilder all, TaskTrace x, int d) {
        for (int i = 0; i < 3; i++) {
            int place = i;
            all.append(d).append('[').append(i).append("] ").append(Desk.outcome(() -> x.at(d, place))).append('\n');
        }
        add(all, "back to " + d, x.back(d), x.count(3), x.count(0), x.count(1), x.count(2), x.state(0), x.rank(0, 0));
        add(all, "tape " + d, x.clear(d));
    }

    private static void add(StringBuilder all, String what, long... answers) {
        all.append(what);
        for (long answer : answers) {
            all.append(' ').append(answer);
        }
        all.append('\n');
    }

    /** A call that is due to be refused, and to count as so many refused marks and refusals of the host's. */
    private void refused(String name, String due, int marks, int host, ToLongFunction<TaskTrace> call) {
        c.test(promise, "What is refused changes nothing", name + " answers " + due, () -> {
            TaskTrace x = maker.get();
            TaskTrace twin = maker.get();
            c.due("the outcome is " + due, Desk.outcome(() -> call.applyAsLong(x)).equals(due) ? 1 : 0, 1);
            c.due("marks refused", x.count(5) - twin.count(5), marks);
            c.due("the host's refusals", x.count(6) - twin.count(6), host);
            c.due("what can be asked is the same", face(x).equals(face(twin)) ? 1 : 0, 1);
        });
    }

    private void refused(String name, String due, ToLongFunction<TaskTrace> call) {
        int value = due.charAt(0) == '-' ? Integer.parseInt(due) : 0;
        refused(name, due, 0, value <= -11 ? 1 : 0, call);
    }

    private void refusedMark(String name, String due, ToLongFunction<TaskTrace> call) {
        refused(name, due, 1, 0, call);
    }

    /** Homes, ranks, other ranks, laws and tapes are told, and no marks. */
    private TaskTrace settled() {
        TaskTrace x = c.made(2, 3, 8);
        c.due("home", x.home(2, 1), 0);
        c.due("rank", x.rank(0, 3), 0);
        c.due("rank", x.rank(1, 5), 0);
        c.due("other", x.other(1, 2), 5);
        c.due("law", x.law(0, 0, 0, 5), 0);
        c.due("law", x.law(3, 0, 0, 0), 1);
        c.due("tape 0, shorts", x.tape(0, 2, 2), 2);
        c.due("put", x.put(0, 1, 77), 1);
        c.due("tape 1, ints", x.tape(1, 3, 3), 3);
        c.due("put", x.put(1, 2, 88), 1);
        c.due("keep on 2, without marks", x.keep(2), 0);
        return x;
    }

    /** As settled, with marks on both processors and a copy of them on tape 3; processor 0 is not IN, task 0 runs. */
    private TaskTrace told() {
        TaskTrace x = settled();
        c.tell(x, READY, 0, -1, 9, RUN, 0, -1, 10, LOCK, 0, 1, 11, SEND, -1, 9, 12, START, -1, 3, 12, BLOCK, 0, -1, 15);
        c.tell(x, READY, 0, -1, 20, SEND, -1, 8, 22, RUN, 0, -1, 30);
        c.tellOn(x, 1, RECEIVE, -1, 9, 200, ANSWER, -1, 3, 3, LOST, -1, -1, 2);
        c.due("keep", x.keep(3), 12);
        c.tell(x, IN, -1, -1, 35, OUT, -1, -1, 36);
        return x;
    }

    /** Processor 0 has 200 marks, and there are 8 laws. */
    private TaskTrace full() {
        TaskTrace x = settled();
        for (int i = 2; i < 8; i++) {
            c.due("law", x.law(2, 0, 0, i), i);
        }
        c.tell(x, READY, 0, -1, 0);
        for (int i = 0; i < 199; i++) {
            c.due("mark", x.mark(0, i % 2 == 0 ? IN : OUT, -1, -1, 7 * i & 255), i + 1);
        }
        return x;
    }

    // ---- the refusals

    private void aheadOfMarks() {
        maker = this::settled;
        promise = 2;
        refused("begin with P 0", NONE, x -> x.begin(0, 1, 4));
        refused("begin with P 4", NONE, x -> x.begin(4, 1, 4));
        refused("begin with T 9", NONE, x -> x.begin(1, 9, 4));
        refused("begin with W 17", NONE, x -> x.begin(1, 1, 17));
        promise = 3;
        refused("home of no task", NONE, x -> x.home(3, 1));
        refused("home on no processor", NONE, x -> x.home(0, 2));
        promise = 4;
        refused("rank of no task", NONE, x -> x.rank(3, 1));
        refused("rank 16", NONE, x -> x.rank(0, 16));
        promise = 5;
        refused("other rank of no task", NONE, x -> x.other(3, 1));
        refused("other rank 16 of one that is untold", NONE, x -> x.other(0, 16));
        refused("other rank -1 of one that is told", NONE, x -> x.other(1, -1));
        promise = 6;
        refusedMark("a first mark out of form", NONE, x -> x.mark(0, READY, 0, 0, 0));
        refusedMark("a first OUT", BAD, x -> x.mark(0, OUT, -1, -1, 0));
        promise = 19;
        refused("a law of no kind", NONE, x -> x.law(4, 0, 0, 0));
        refused("a law of no task", NONE, x -> x.law(0, 3, 0, 0));
        refused("a law with d -1", NONE, x -> x.law(2, 0, 0, -1));
    }

    private void marks() {
        maker = this::told;
        promise = 3;
        refused("home with marks", STARTED, x -> x.home(0, 1));
        promise = 6;
        refusedMark("a mark of no processor", NONE, x -> x.mark(2, LOST, -1, -1, 0));
        refusedMark("a mark of no kind", NONE, x -> x.mark(0, 13, -1, -1, 0));
        refusedMark("a LOST with a wrong clock", NONE, x -> x.mark(0, LOST, -1, -1, 256));
        refusedMark("a LOST with a task", NONE, x -> x.mark(0, LOST, 0, -1, 0));
        refusedMark("a letter with x 64", NONE, x -> x.mark(0, SEND, -1, 64, 0));
        refusedMark("READY of a running task", BAD, x -> x.mark(0, READY, 0, -1, 0));
        refusedMark("READY away from home", BAD, x -> x.mark(0, READY, 2, -1, 0));
        refusedMark("RUN of an idle task", BAD, x -> x.mark(0, RUN, 1, -1, 0));
        refusedMark("BLOCK of an idle task", BAD, x -> x.mark(0, BLOCK, 1, -1, 0));
        refusedMark("WANT of one's own lock", BAD, x -> x.mark(0, WANT, 0, 1, 0));
        refusedMark("LOCK of one's own lock", BAD, x -> x.mark(0, LOCK, 0, 1, 0));
        refusedMark("FREE of what none holds", BAD, x -> x.mark(0, FREE, 0, 0, 0));
        refusedMark("OUT behind OUT", BAD, x -> x.mark(0, OUT, -1, -1, 0));
        refusedMark("a letter on the other processor", TWICE, x -> x.mark(1, SEND, -1, 8, 0));
        promise = 33;
        refused("play of a row that is too short", PLACE, x -> x.play(1, 0, 1, 0));
    }

    private void whenFull() {
        maker = this::full;
        promise = 6;
        refusedMark("a mark too many", FULL, x -> x.mark(0, LOST, -1, -1, 0));
        refusedMark("a READY too many", FULL, x -> x.mark(0, READY, 1, -1, 0));
        refusedMark("a letter too many", FULL, x -> x.mark(0, SEND, -1, 9, 0));
        promise = 19;
        refused("a law too many", FULL, x -> x.law(2, 0, 0, 1));
    }

    private void questions() {
        maker = this::told;
        promise = 7;
        refused("told of no mark", NONE, x -> x.told(0, 11, 3));
        promise = 8;
        refused("state of no task", NONE, x -> x.state(3));
        promise = 9;
        refused("holder of no lock", NONE, x -> x.holder(0, 4));
        promise = 10;
        refused("sum of no what", NONE, x -> x.sum(0, 6));
        promise = 11;
        refused("busy of no processor", NONE, x -> x.busy(2, 0));
        promise = 12;
        refused("wait of no what", NONE, x -> x.wait(0, 5));
        promise = 13;
        refused("held of no what", NONE, x -> x.held(0, 7));
        promise = 14;
        refused("chain of no task", NONE, x -> x.chain(-1));
        promise = 15;
        refused("jobs of no task", NONE, x -> x.jobs(3));
        promise = 16;
        refused("job that isn't there", NONE, x -> x.job(0, 1, 0));
        promise = 17;
        refused("worst without jobs", NONE, x -> x.worst(1));
        promise = 18;
        refused("late with d -1", NONE, x -> x.late(0, -1));
        promise = 20;
        refused("breaks of no law", NONE, x -> x.breaks(2, 0));
        promise = 21;
        refused("broken that isn't there", NONE, x -> x.broken(1, 1, 0));
        promise = 25;
        refused("again of no job", NONE, x -> x.again(0, 1));
        promise = 26;
        refused("slowest without jobs", NONE, x -> x.slowest(1));
        promise = 27;
        refused("period of one job", NONE, x -> x.period(0, 0));
        promise = 38;
        refused("count of no what", NONE, x -> x.count(7));
    }

    private void thrown() {
        maker = this::told;
        promise = 23;
        refused("gap of no processor", ARGUMENT, x -> x.gap(0, 2, 0));
        refused("gap without a greatest value", STATE, x -> x.gap(0, 1, 1));
        promise = 24;
        refused("answer of no x", ARGUMENT, x -> x.answer(64, 0));
        refused("answer that isn't told", STATE, x -> x.answer(4, 0));
        promise = 31;
        refused("differ with no tape", ARGUMENT, x -> x.differ(6, 0, 0));
        refused("differ with a row", STATE, x -> x.differ(0, 0, 0));
        promise = 36;
        refused("at of no tape", ARGUMENT, x -> x.at(6, 0));
        refused("at of no place", STATE, x -> x.at(0, 2));
        refused("at of nothing", STATE, x -> x.at(5, 0));
    }

    private void tapes() {
        maker = this::told;
        promise = 28;
        refused("tape of no tape", NONE, x -> x.tape(6, 1, 1));
        refused("tape of no sort, over a row", NONE, x -> x.tape(0, 5, 1));
        refused("tape of 101, over a copy", NONE, x -> x.tape(3, 1, 101));
        refused("tape of -1, over a row", SIZE, x -> x.tape(0, 1, -1));
        refused("tape of -1, over a copy", SIZE, x -> x.tape(3, 1, -1));
        refused("tape of -1, over nothing", SIZE, x -> x.tape(5, 1, -1));
        promise = 29;
        refused("keep on no tape", NONE, x -> x.keep(6));
        promise = 30;
        refused("back to no tape", NONE, x -> x.back(6));
        refused("back to nothing", NOTHING, x -> x.back(5));
        refused("back to a row", CAST, x -> x.back(0));
        promise = 32;
        refused("toss of no tape", NONE, x -> x.toss(-1));
        refused("toss of nothing", NOTHING, x -> x.toss(5));
        refused("toss of a row", CAST, x -> x.toss(1));
        refused("toss of a copy without marks", THROWN, x -> x.toss(2));
        promise = 34;
        refused("clear of no tape", NONE, x -> x.clear(6));
    }

    private void rows() {
        maker = this::told;
        promise = 33;
        refused("play of no tape", NONE, x -> x.play(6, 0, 1, 0));
        refused("play on no processor", NONE, x -> x.play(1, 0, 1, 2));
        refused("play of 21", NONE, x -> x.play(1, 0, 21, 0));
        refused("play of nothing", NOTHING, x -> x.play(5, 0, 1, 0));
        refused("play of shorts", CAST, x -> x.play(0, 0, 1, 0));
        refused("play of a copy", CAST, x -> x.play(3, 0, 1, 0));
        promise = 35;
        refused("put on no tape", NONE, x -> x.put(6, 0, 1));
        refused("put on nothing", NOTHING, x -> x.put(5, 0, 1));
        refused("put on a copy", CAST, x -> x.put(3, 0, 1));
        refused("put behind the row", PLACE, x -> x.put(0, 2, 1));
        refused("put ahead of the row", PLACE, x -> x.put(0, -1, 1));
        promise = 37;
        refused("copy from no tape", NONE, x -> x.copy(6, 0, 0, 0, 1));
        refused("copy onto nothing", NOTHING, x -> x.copy(0, 0, 5, 0, 1));
        refused("copy of shorts onto ints", CAST, x -> x.copy(0, 0, 1, 0, 1));
        refused("copy of a copy", CAST, x -> x.copy(3, 0, 3, 0, 0));
        refused("copy of too many", PLACE, x -> x.copy(1, 1, 1, 0, 3));
        refused("copy of -1", PLACE, x -> x.copy(1, 2, 1, 0, -1));
    }

    // ---- asking

    private interface Asked {
        void of(TaskTrace x, int what);
    }

    /** Asks a question with each what that it has, of an object whose twin isn't asked. */
    private void asked(int number, String name, int whats, Asked question) {
        c.test(number, "Nothing is promised beyond the answers and state changes described above", name + " changes nothing", () -> {
            TaskTrace x = told();
            TaskTrace twin = told();
            for (int what = 0; what < whats; what++) {
                question.of(x, what);
            }
            c.due("nothing was refused", x.count(5) + x.count(6), 0);
            c.due("what can be asked is the same", face(x).equals(face(twin)) ? 1 : 0, 1);
        });
    }

    private void asking() {
        asked(7, "told", 4, (x, what) -> x.told(0, 0, what));
        asked(8, "state", 3, TaskTrace::state);
        asked(9, "holder", 4, (x, what) -> x.holder(0, what));
        asked(10, "sum", 6, (x, what) -> x.sum(0, what));
        asked(11, "busy", 4, (x, what) -> x.busy(0, what));
        asked(12, "wait", 5, (x, what) -> x.wait(0, what));
        asked(13, "held", 7, (x, what) -> x.held(0, what));
        asked(14, "chain", 3, TaskTrace::chain);
        asked(15, "jobs", 3, TaskTrace::jobs);
        asked(16, "job", 5, (x, what) -> x.job(0, 0, what));
        asked(17, "worst", 1, TaskTrace::worst);
        asked(18, "late", 9, (x, what) -> x.late(0, what));
        asked(20, "breaks", 2, (x, what) -> x.breaks(0, what));
        asked(21, "broken", 2, (x, what) -> x.broken(1, 0, what));
        asked(22, "agree", 1, (x, what) -> x.agree());
        asked(23, "gap", 1, (x, what) -> x.gap(0, 1, what));
        asked(24, "answer", 1, (x, what) -> x.answer(3, what));
        asked(25, "again", 1, (x, what) -> x.again(0, what));
        asked(26, "slowest", 1, TaskTrace::slowest);
        asked(27, "period", 2, (x, what) -> x.period(0, what));
        asked(31, "differ", 6, (x, what) -> x.differ(3, 0, what));
        asked(32, "toss", 1, (x, what) -> x.toss(3));
        asked(36, "at", 2, (x, what) -> x.at(0, what));
        asked(38, "count", 7, TaskTrace::count);
    }
}
