/** The boundary cases of promises 28 to 38: rows and copies on tapes, marks told from a row, and counts. */
final class EdgesOfTapes {
    private static final int READY = Desk.READY, RUN = Desk.RUN, BLOCK = Desk.BLOCK, WANT = Desk.WANT, LOCK = Desk.LOCK;
    private static final int FREE = Desk.FREE, IN = Desk.IN, OUT = Desk.OUT, LOST = Desk.LOST;
    private static final int SEND = Desk.SEND, RECEIVE = Desk.RECEIVE, ANSWER = Desk.ANSWER;
    private static final int NONE = Desk.NONE, STARTED = Desk.STARTED, BAD = Desk.BAD, TWICE = Desk.TWICE;
    private static final int NOTHING = Desk.NOTHING, CAST = Desk.CAST, PLACE = Desk.PLACE, SIZE = Desk.SIZE, THROWN = Desk.THROWN;
    private static final int MIN = Desk.MIN, MAX = Desk.MAX;
    private static final int[] NO_TAPES = {-1, MIN, 6, MAX};
    private static final String FIRST_NAMED = "Of several refusals the one that is named first in a method's words is answered";

    private final Desk c;

    private EdgesOfTapes(Desk c) {
        this.c = c;
    }

    static void run(Desk desk) {
        EdgesOfTapes edges = new EdgesOfTapes(desk);
        edges.tape();
        edges.tapeRefused();
        edges.keep();
        edges.back();
        edges.backToOtherStates();
        edges.backRefused();
        edges.differ();
        edges.differRefused();
        edges.toss();
        edges.play();
        edges.playPlaces();
        edges.playStops();
        edges.playRefused();
        edges.clear();
        edges.put();
        edges.putRefused();
        edges.at();
        edges.copy();
        edges.copyPlaces();
        edges.copyRefused();
        edges.count();
        edges.countRefusals();
    }

    private void rowIs(TaskTrace x, int d, long... due) {
        for (int i = 0; i < due.length; i++) {
            c.due("at(" + d + ", " + i + ")", x.at(d, i), due[i]);
        }
        c.state("no place behind the row", () -> x.at(d, due.length));
    }

    private void toldIs(TaskTrace x, int processor, int i, int... due) {
        for (int what = 0; what < due.length; what++) {
            c.due("told(" + processor + ", " + i + ", " + what + ")", x.told(processor, i, what), due[what]);
        }
    }

    private TaskTrace withRow(int d, int sort, long... values) {
        TaskTrace x = c.made(2, 2, 8);
        c.due("tape", x.tape(d, sort, values.length), values.length);
        for (int i = 0; i < values.length; i++) {
            c.due("put", x.put(d, i, values[i]), 1);
        }
        return x;
    }

    // ---- promise 28

    private void tape() {
        c.test(28, "TAPE d gets a row of n elements, all 0, of a sort (1 .. 4): n", "n 0, 1 and 100 of each sort, on the first and the last tape", () -> {
            TaskTrace x = new TaskTrace();
            for (int sort = 1; sort <= 4; sort++) {
                for (int n : new int[] {0, 1, 100}) {
                    for (int d : new int[] {0, 5}) {
                        c.due("tape(" + d + ", " + sort + ", " + n + ")", x.tape(d, sort, n), n);
                        c.state("place n", () -> x.at(d, n));
                        c.due("the last place", n == 0 ? 0 : x.at(d, n - 1), 0);
                        c.due("clear", x.clear(d), sort);
                    }
                }
            }
        });
        c.test(28, "TAPE d gets a row of n elements, all 0, of a sort (1 .. 4): n", "what it held is gone, also if it is laid shorter and longer again", () -> {
            TaskTrace x = withRow(2, 4, 5, 6, 7);
            c.due("tape", x.tape(2, 4, 1), 1);
            rowIs(x, 2, 0);
            c.due("tape", x.tape(2, 4, 3), 3);
            rowIs(x, 2, 0, 0, 0);
        });
        c.test(28, "TAPE d gets a row of n elements, all 0, of a sort (1 .. 4): n", "over a copy", () -> {
            TaskTrace x = new TaskTrace();
            c.due("keep", x.keep(2), 0);
            c.due("tape", x.tape(2, 1, 2), 2);
            rowIs(x, 2, 0, 0);
            c.due("back", x.back(2), CAST);
        });
        c.test(28, "TAPES 0 .. 5 each hold nothing (at first), a row", "the other tapes stay", () -> {
            TaskTrace x = withRow(2, 4, 5);
            for (int d : new int[] {0, 1, 3, 4, 5}) {
                c.due("put", x.put(d, 0, 1), NOTHING);
            }
            c.due("tape", x.tape(3, 4, 1), 1);
            rowIs(x, 2, 5);
        });
    }

    private void tapeRefused() {
        c.test(28, "NONE: no such TAPE, sort, n above 100", "a tape below 0 or above 5", () -> {
            TaskTrace x = new TaskTrace();
            for (int d : NO_TAPES) {
                c.due("tape(" + d + ", 1, 1)", x.tape(d, 1, 1), NONE);
            }
        });
        c.test(28, "NONE: no such TAPE, sort, n above 100", "a sort below 1 or above 4; a copy is none of them", () -> {
            TaskTrace x = withRow(0, 2, 9);
            for (int sort : new int[] {0, -1, MIN, 5, MAX}) {
                c.due("tape(0, " + sort + ", 1)", x.tape(0, sort, 1), NONE);
            }
            rowIs(x, 0, 9);
        });
        c.test(28, "NONE: no such TAPE, sort, n above 100", "n 101 and more", () -> {
            TaskTrace x = withRow(0, 2, 9);
            c.due("101", x.tape(0, 1, 101), NONE);
            c.due("MAX", x.tape(0, 1, MAX), NONE);
            rowIs(x, 0, 9);
        });
        c.test(28, "SIZE (-14): a size below 0", "n -1 and less; what is held stays", () -> {
            TaskTrace x = withRow(0, 2, 9);
            c.due("-1", x.tape(0, 1, -1), SIZE);
            c.due("MIN", x.tape(0, 1, MIN), SIZE);
            rowIs(x, 0, 9);
            c.due("on a tape that holds nothing", x.tape(1, 1, -1), SIZE);
            c.due("it holds nothing", x.clear(1), 0);
        });
        c.test(28, FIRST_NAMED, "NONE ahead of SIZE", () -> {
            TaskTrace x = new TaskTrace();
            c.due("tape", x.tape(6, 1, -1), NONE);
            c.due("sort", x.tape(0, 5, -1), NONE);
            c.due("no refusal of the host's", x.count(6), 0);
        });
    }

    // ---- promise 29

    private void keep() {
        c.test(29, "TAPE d gets a COPY: how many MARKS it has", "none, some, and all that three processors hold", () -> {
            TaskTrace x = c.made(2, 1, 8);
            c.due("none", x.keep(0), 0);
            c.tell(x, IN, -1, -1, 0);
            c.tellOn(x, 1, IN, -1, -1, 0, OUT, -1, -1, 0);
            c.due("three", x.keep(5), 3);
            for (int i = 0; i < 199; i++) {
                c.due("mark", x.mark(0, LOST, -1, -1, 0), i + 1);
            }
            for (int i = 0; i < 198; i++) {
                c.due("mark", x.mark(1, LOST, -1, -1, 0), i + 2);
            }
            c.due("400", x.keep(5), 400);
            c.due("and back", x.back(5), 400);
        });
        c.test(29, "TAPE d gets a COPY: how many MARKS it has", "what is told later isn't in it", () -> {
            TaskTrace x = c.made(1, 1, 8);
            c.tell(x, READY, 0, -1, 3);
            c.due("keep", x.keep(1), 1);
            c.tell(x, RUN, 0, -1, 5);
            c.due("begin", x.begin(1, 1, 8), 1);
            c.due("back", x.back(1), 1);
            c.due("state", x.state(0), 1);
        });
        c.test(29, "TAPE d gets a COPY: how many MARKS it has", "over a row and over a copy", () -> {
            TaskTrace x = withRow(0, 1, 4);
            c.due("keep", x.keep(0), 0);
            c.state("no row any more", () -> x.at(0, 0));
            c.tell(x, IN, -1, -1, 0);
            c.due("keep", x.keep(0), 1);
            c.due("toss", x.toss(0), 1);
            c.due("clear", x.clear(0), 5);
        });
        c.test(29, "NONE: no such TAPE", "below 0 or above 5", () -> {
            TaskTrace x = new TaskTrace();
            for (int d : NO_TAPES) {
                c.due("keep(" + d + ")", x.keep(d), NONE);
            }
        });
    }

    // ---- promise 30

    private void back() {
        c.test(30, "All becomes as the COPY on TAPE d", "MARKS, HOMES, RANKS, P, T and W, from a smaller trace to a greater one", () -> {
            TaskTrace x = c.made(3, 8, 16);
            c.due("home", x.home(7, 2), 0);
            c.due("rank", x.rank(7, 15), 0);
            c.tellOn(x, 2, READY, 7, -1, 65535, RUN, 7, -1, 65534, SEND, -1, 63, 65534);
            c.due("keep", x.keep(4), 3);
            c.due("begin", x.begin(1, 1, 4), 1);
            c.tell(x, IN, -1, -1, 5);
            c.due("back", x.back(4), 3);
            c.due("P", x.count(0), 3);
            c.due("T", x.count(1), 8);
            c.due("W", x.count(2), 16);
            c.due("marks of 0", x.count(10), 0);
            c.due("marks of 2", x.count(12), 3);
            c.due("time", x.told(2, 1, 3), 65535 + 65535);
            c.due("home", x.sum(7, 5), 65535);
            c.due("rank", x.rank(7, 0), 15);
        });
        c.test(30, "All becomes as the COPY on TAPE d", "from a greater trace to a smaller one", () -> {
            TaskTrace x = c.made(1, 1, 4);
            c.due("keep", x.keep(4), 0);
            c.due("begin", x.begin(3, 8, 16), 3);
            c.due("home", x.home(0, 2), 0);
            c.due("rank", x.rank(0, 9), 0);
            c.tellOn(x, 2, READY, 0, -1, 5, RUN, 0, -1, 6);
            c.due("back", x.back(4), 0);
            c.due("no task 1", x.state(1), NONE);
            c.due("no processor 1", x.count(11), NONE);
            c.refused(x, NONE, IN, -1, -1, 16);
            c.due("state", x.state(0), 0);
            c.due("rank", x.rank(0, 0), 0);
            c.due("home", x.home(0, 0), 0);
            c.tell(x, READY, 0, -1, 15);
        });
        c.test(30, "(LAWS are gone, OTHER RANKS untold)", "though the COPY was kept with them", () -> {
            TaskTrace x = c.made(1, 2, 8);
            c.due("rank", x.rank(0, 4), 0);
            c.due("other", x.other(0, 9), 4);
            c.due("law", x.law(3, 0, 0, 0), 0);
            c.due("keep", x.keep(0), 0);
            c.due("back", x.back(0), 0);
            c.due("laws", x.count(4), 0);
            c.due("breaks", x.breaks(0, 0), NONE);
            c.due("other", x.other(0, 1), 4);
        });
        c.test(30, "All becomes as the COPY on TAPE d", "the TAPES stay, the COPY too", () -> {
            TaskTrace x = withRow(1, 3, 8, 9);
            c.tell(x, IN, -1, -1, 0);
            c.due("keep", x.keep(0), 1);
            c.due("keep", x.keep(2), 1);
            c.due("back", x.back(0), 1);
            c.tell(x, OUT, -1, -1, 0);
            c.due("back again", x.back(0), 1);
            rowIs(x, 1, 8, 9);
            c.due("clear", x.clear(2), 5);
        });
        c.test(30, "MARKS refused since begin()", "back is no begin: it leaves what was counted", () -> {
            TaskTrace x = c.made(1, 1, 8);
            c.due("keep", x.keep(0), 0);
            c.refused(x, BAD, OUT, -1, -1, 0);
            c.due("put", x.put(1, 0, 0), NOTHING);
            c.due("back", x.back(0), 0);
            c.due("marks refused", x.count(5), 1);
            c.due("the host's refusals", x.count(6), 1);
        });
    }

    private void backToOtherStates() {
        c.test(30, "All becomes as the COPY on TAPE d", "so marks go on from there: states, locks, what is wanted, IN", () -> {
            TaskTrace x = c.made(1, 2, 8);
            c.tell(x, READY, 0, -1, 0, RUN, 0, -1, 0, LOCK, 0, 2, 0, READY, 1, -1, 0, RUN, 1, -1, 0, WANT, 1, 2, 0, IN, -1, -1, 9);
            c.due("keep", x.keep(0), 7);
            c.tell(x, LOST, -1, -1, 20, RUN, 1, -1, 21, LOCK, 1, 0, 22);
            c.due("back", x.back(0), 7);
            c.refused(x, BAD, IN, -1, -1, 9);
            c.tell(x, OUT, -1, -1, 8);
            c.due("the time goes on from the copy's", x.told(0, 7, 3), 264);
            c.due("holder(0, 2)", x.holder(0, 2), 0);
            c.due("holder(0, 0)", x.holder(0, 0), -2);
            c.refused(x, BAD, LOCK, 1, 0, 9);
            c.tell(x, RUN, 0, -1, 9, FREE, 0, 2, 9, LOCK, 1, 2, 9);
        });
        c.test(30, "All becomes as the COPY on TAPE d", "so a letter is told if the COPY has it, and not if it hasn't", () -> {
            TaskTrace x = c.made(2, 1, 8);
            c.tell(x, SEND, -1, 3, 0);
            c.due("keep", x.keep(0), 1);
            c.tell(x, SEND, -1, 4, 0);
            c.tellOn(x, 1, RECEIVE, -1, 3, 200);
            c.due("back", x.back(0), 1);
            c.refused(x, TWICE, SEND, -1, 3, 0);
            c.tell(x, SEND, -1, 4, 0);
            c.tellOn(x, 1, RECEIVE, -1, 3, 7);
            c.due("gap", x.gap(0, 1, 0), -7);
        });
        c.test(30, "All becomes as the COPY on TAPE d", "so a home may be told if it has no MARKS, and not if it has", () -> {
            TaskTrace x = c.made(2, 1, 8);
            c.due("keep", x.keep(0), 0);
            c.tell(x, IN, -1, -1, 0);
            c.due("keep", x.keep(1), 1);
            c.due("back", x.back(0), 0);
            c.due("home", x.home(0, 1), 0);
            c.due("back", x.back(1), 1);
            c.due("home", x.home(0, 1), STARTED);
        });
        c.test(30, "All becomes as the COPY on TAPE d", "of a full processor it is full again, of others' marks it has none", () -> {
            TaskTrace x = c.made(1, 1, 8);
            c.tellLetters(x, 0, 200, 7);
            c.due("keep", x.keep(0), 200);
            c.due("begin", x.begin(1, 1, 8), 1);
            for (int i = 0; i < 150; i++) {
                c.due("mark", x.mark(0, LOST, -1, -1, 9), i);
            }
            c.due("back", x.back(0), 200);
            c.refused(x, Desk.FULL, LOST, -1, -1, 0);
            toldIs(x, 0, 0, SEND, -1, 0, 7);
            toldIs(x, 0, 149, SEND + 2, -1, 21, 7);
            toldIs(x, 0, 199, ANSWER, -1, 7, 7);
        });
        c.test(30, "All becomes as the COPY on TAPE d", "of a processor with one MARK, and of one with none", () -> {
            TaskTrace x = c.made(2, 2, 8);
            c.due("home", x.home(1, 1), 0);
            c.tellOn(x, 1, READY, 1, -1, 77);
            c.due("keep", x.keep(0), 1);
            c.due("begin", x.begin(2, 2, 8), 2);
            c.tellOn(x, 1, SEND, -1, 4, 5, SEND, -1, 5, 6);
            c.tell(x, SEND, -1, 6, 5);
            c.due("back", x.back(0), 1);
            toldIs(x, 1, 0, READY, 1, -1, 77);
            c.due("no more", x.told(1, 1, 0), NONE);
            c.due("none of 0", x.told(0, 0, 0), NONE);
        });
        c.test(30, "All becomes as the COPY on TAPE d", "what a task wants is the COPY's, though it wanted another LOCK since", () -> {
            TaskTrace x = c.made(1, 2, 8);
            c.tell(x, READY, 0, -1, 0, RUN, 0, -1, 0, LOCK, 0, 2, 0, READY, 1, -1, 0, RUN, 1, -1, 0, WANT, 1, 2, 0);
            c.due("keep", x.keep(0), 6);
            c.due("begin", x.begin(1, 2, 8), 1);
            c.tell(x, READY, 0, -1, 0, RUN, 0, -1, 0, LOCK, 0, 3, 0, READY, 1, -1, 0, RUN, 1, -1, 0, WANT, 1, 3, 0);
            c.due("back", x.back(0), 6);
            c.tell(x, RUN, 0, -1, 0, FREE, 0, 2, 0);
            c.refused(x, BAD, LOCK, 1, 3, 0);
            c.tell(x, LOCK, 1, 2, 0);
        });
        c.test(30, "All becomes as the COPY on TAPE d", "letters of all four kinds, with the least and the greatest x", () -> {
            TaskTrace x = c.made(1, 1, 8);
            for (int kind = SEND; kind <= ANSWER; kind++) {
                c.tell(x, kind, -1, 0, 0, kind, -1, 63, 1);
            }
            c.due("keep", x.keep(0), 8);
            c.due("begin", x.begin(1, 1, 8), 1);
            for (int kind = SEND; kind <= ANSWER; kind++) {
                c.tell(x, kind, -1, 1, 0);
            }
            c.due("back", x.back(0), 8);
            for (int kind = SEND; kind <= ANSWER; kind++) {
                c.refused(x, TWICE, kind, -1, 0, 0);
                c.refused(x, TWICE, kind, -1, 63, 0);
            }
            c.due("answer", x.answer(63, 0), 256);
            for (int kind = SEND; kind <= ANSWER; kind++) {
                c.tell(x, kind, -1, 1, 0);
            }
        });
    }

    private void backRefused() {
        c.test(30, "NONE: no such TAPE; NOTHING; CAST", "a tape below 0 or above 5", () -> {
            TaskTrace x = new TaskTrace();
            for (int d : NO_TAPES) {
                c.due("back(" + d + ")", x.back(d), NONE);
            }
            c.due("none of the host's", x.count(6), 0);
        });
        c.test(30, "NOTHING (-11): nothing is held where something is wanted", "at first, and behind clear", () -> {
            TaskTrace x = new TaskTrace();
            c.due("at first", x.back(0), NOTHING);
            c.due("keep", x.keep(0), 0);
            c.due("clear", x.clear(0), 5);
            c.due("cleared", x.back(0), NOTHING);
        });
        c.test(30, "CAST (-12): it is of another sort", "a row of each sort, also an empty one", () -> {
            TaskTrace x = new TaskTrace();
            for (int sort = 1; sort <= 4; sort++) {
                c.due("tape", x.tape(0, sort, 0), 0);
                c.due("back", x.back(0), CAST);
            }
        });
    }

    // ---- promise 31

    private void differ() {
        c.test(31, "How long a TASK counts as what (0 .. 5 of sum()) now, less how long it does in the COPY", "each what, above 0, 0 and below 0", () -> {
            TaskTrace x = c.made(1, 2, 8);
            c.tell(x, SEND, -1, 0, 0, READY, 0, -1, 9, RUN, 0, -1, 10, LOCK, 0, 0, 10, READY, 1, -1, 15, RUN, 1, -1, 15, SEND, -1, 1, 16);
            c.due("keep", x.keep(3), 7);
            int[] same = {0, 0, 0, 0, 0, 0};
            differs(x, 3, 0, same);
            c.tell(x, WANT, 1, 0, 17, RUN, 0, -1, 20, BLOCK, 0, -1, 28, LOST, -1, -1, 60);
            differs(x, 3, 0, 0, 1 + 3, 8, 0, 32, 44);
            differs(x, 3, 1, 0, 0, 1, 11, 32, 44);
            c.due("begin", x.begin(1, 2, 8), 1);
            differs(x, 3, 0, -9, -1 - 1, -5, 0, 0, -16);
        });
        c.test(31, "less how long it does in the COPY", "by the COPY's HOME of the TASK", () -> {
            TaskTrace x = c.made(2, 1, 8);
            c.due("home", x.home(0, 1), 0);
            c.tellOn(x, 1, READY, 0, -1, 0, SEND, -1, 0, 30);
            c.tell(x, SEND, -1, 1, 0, SEND, -1, 2, 7);
            c.due("keep", x.keep(0), 4);
            c.due("begin", x.begin(1, 1, 8), 1);
            c.tell(x, SEND, -1, 0, 0, SEND, -1, 1, 2);
            differs(x, 0, 0, 2, -30, 0, 0, 0, -28);
        });
    }

    private void differs(TaskTrace x, int d, int task, int... due) {
        for (int what = 0; what < due.length; what++) {
            c.due("differ(" + d + ", " + task + ", " + what + ")", x.differ(d, task, what), due[what]);
        }
    }

    private void differRefused() {
        c.test(31, "IllegalArgumentException: no such TAPE, what", "a tape below 0 or above 5", () -> {
            TaskTrace x = new TaskTrace();
            for (int d : NO_TAPES) {
                c.argument("tape " + d, () -> x.differ(d, 0, 0));
            }
        });
        c.test(31, "IllegalArgumentException: no such TAPE, what", "what below 0 or above 5", () -> {
            TaskTrace x = new TaskTrace();
            c.due("keep", x.keep(0), 0);
            for (int what : new int[] {-1, MIN, 6, MAX}) {
                c.argument("what " + what, () -> x.differ(0, 0, what));
            }
            c.due("the greatest", x.differ(0, 0, 5), 0);
        });
        c.test(31, "or TASK here or in the COPY", "here: below 0 or from T on, though the COPY has it", () -> {
            TaskTrace x = c.made(1, 8, 8);
            c.due("keep", x.keep(0), 0);
            c.due("begin", x.begin(1, 3, 8), 1);
            for (int task : new int[] {-1, MIN, 3, 7, 8, MAX}) {
                c.argument("task " + task, () -> x.differ(0, task, 0));
            }
            c.due("the last", x.differ(0, 2, 0), 0);
        });
        c.test(31, "or TASK here or in the COPY", "in the COPY: from its T on, though it is here", () -> {
            TaskTrace x = c.made(1, 3, 8);
            c.due("keep", x.keep(0), 0);
            c.due("begin", x.begin(1, 8, 8), 1);
            c.argument("task 3", () -> x.differ(0, 3, 0));
            c.argument("task 7", () -> x.differ(0, 7, 0));
            c.due("the last of the COPY", x.differ(0, 2, 0), 0);
        });
        c.test(31, "IllegalStateException: no COPY is held", "nothing, and a row of each sort", () -> {
            TaskTrace x = new TaskTrace();
            c.state("nothing", () -> x.differ(5, 0, 0));
            for (int sort = 1; sort <= 4; sort++) {
                c.due("tape", x.tape(5, sort, 1), 1);
                c.state("a row", () -> x.differ(5, 0, 0));
            }
            c.due("keep", x.keep(5), 0);
            c.due("clear", x.clear(5), 5);
            c.state("cleared", () -> x.differ(5, 0, 0));
        });
        c.test(31, FIRST_NAMED, "IllegalArgumentException ahead of IllegalStateException", () -> {
            TaskTrace x = new TaskTrace();
            c.argument("tape", () -> x.differ(6, 0, 0));
            c.argument("what", () -> x.differ(0, 0, 6));
            c.argument("task here", () -> x.differ(0, 2, 0));
        });
    }

    // ---- promise 32

    private void toss() {
        c.test(32, "The failure of the COPY on TAPE d is thrown, and caught: how many MARKS it has", "one, and more than one processor's", () -> {
            TaskTrace x = c.made(3, 1, 8);
            c.tellOn(x, 2, LOST, -1, -1, 0);
            c.due("keep", x.keep(0), 1);
            c.due("toss", x.toss(0), 1);
            c.tell(x, LOST, -1, -1, 0);
            c.due("of the COPY, not of what is told now", x.toss(0), 1);
            c.due("keep", x.keep(5), 2);
            c.due("toss", x.toss(5), 2);
        });
        c.test(32, "The failure of the COPY on TAPE d is thrown, and caught: how many MARKS it has", "nothing is changed by it", () -> {
            TaskTrace x = c.made(1, 1, 8);
            c.tell(x, READY, 0, -1, 0);
            c.due("keep", x.keep(0), 1);
            c.tell(x, RUN, 0, -1, 0);
            c.due("law", x.law(3, 0, 0, 0), 0);
            c.due("toss", x.toss(0), 1);
            c.due("toss", x.toss(0), 1);
            c.due("marks", x.count(3), 2);
            c.due("laws", x.count(4), 1);
            c.due("state", x.state(0), 2);
            c.due("none of the host's", x.count(6), 0);
        });
        c.test(32, "THROWN: one without MARKS has none", "and is counted as the host's", () -> {
            TaskTrace x = c.made(1, 1, 8);
            c.due("keep", x.keep(0), 0);
            c.tell(x, LOST, -1, -1, 0);
            c.due("toss", x.toss(0), THROWN);
            c.due("the host's", x.count(6), 1);
        });
        c.test(32, "NONE: no such TAPE; NOTHING; CAST; THROWN", "a tape below 0 or above 5", () -> {
            TaskTrace x = new TaskTrace();
            for (int d : NO_TAPES) {
                c.due("toss(" + d + ")", x.toss(d), NONE);
            }
        });
        c.test(32, "NONE: no such TAPE; NOTHING; CAST; THROWN", "nothing is held, or a row of each sort", () -> {
            TaskTrace x = new TaskTrace();
            c.due("nothing", x.toss(5), NOTHING);
            for (int sort = 1; sort <= 4; sort++) {
                c.due("tape", x.tape(5, sort, 0), 0);
                c.due("a row", x.toss(5), CAST);
            }
        });
    }

    // ---- promise 33

    private void play() {
        c.test(33, "n of them from place i on, five elements each (kind, TASK, x, CLOCK, and one that isn't looked at)", "from a place in the midst, with any fifth", () -> {
            TaskTrace x = withRow(0, 3, 99, 99, READY, 0, -1, 5, MAX, RUN, 0, -1, 8, MIN, SEND, -1, 63, 9, 0, 99);
            c.due("play", x.play(0, 2, 3, 0), 3);
            int[] due = {READY, 0, -1, 5, RUN, 0, -1, 8, SEND, -1, 63, 9};
            for (int k = 0; k < due.length; k++) {
                c.due("told", x.told(0, k / 4, k % 4), due[k]);
            }
        });
        c.test(33, "MARKS of a processor are told from the row of ints on TAPE d", "of the last processor", () -> {
            TaskTrace x = withRow(5, 3, IN, -1, -1, 255, 0);
            c.due("play", x.play(5, 0, 1, 1), 1);
            c.due("marks of 0", x.count(10), 0);
            c.due("marks of 1", x.count(11), 1);
        });
        c.test(33, "n is not 0 .. 20", "0 and 20 are taken", () -> {
            TaskTrace x = c.made(1, 1, 8);
            c.due("tape", x.tape(0, 3, 100), 100);
            c.due("0", x.play(0, 0, 0, 0), 0);
            for (int i = 0; i < 20; i++) {
                c.due("put", x.put(0, 5 * i, LOST), 1);
                c.due("put", x.put(0, 5 * i + 1, -1), 1);
                c.due("put", x.put(0, 5 * i + 2, -1), 1);
            }
            c.due("20", x.play(0, 0, 20, 0), 20);
            c.due("marks", x.count(3), 20);
        });
        c.test(33, "how many are taken", "n 0 wants no number, so there is no place that isn't there", () -> {
            TaskTrace x = withRow(0, 3);
            for (int i : new int[] {0, 1, -1, MIN, MAX}) {
                c.due("play(0, " + i + ", 0, 0)", x.play(0, i, 0, 0), 0);
            }
            c.due("none of the host's", x.count(6), 0);
        });
    }

    private void playPlaces() {
        String words = "PLACE: the row ends ahead of a number that is wanted";
        c.test(33, words, "of an empty row, and i at its end, behind it, and below 0", () -> {
            TaskTrace x = withRow(0, 3);
            c.due("empty", x.play(0, 0, 1, 0), PLACE);
            TaskTrace y = withRow(0, 3, IN, -1, -1, 0, 0);
            for (int i : new int[] {5, 6, 100, MAX, -1, -5, MIN}) {
                c.due("play(0, " + i + ", 1, 0)", y.play(0, i, 1, 0), PLACE);
            }
            c.due("no marks", y.count(3), 0);
            c.due("no mark was refused", y.count(5), 0);
        });
        c.test(33, words, "each of the four numbers in turn", () -> {
            for (int n = 0; n < 4; n++) {
                TaskTrace x = withRow(0, 3, new long[n]);
                c.due("of " + n + " elements", x.play(0, 0, 1, 0), PLACE);
                c.due("no mark was refused", x.count(5), 0);
            }
        });
        c.test(33, words, "the fifth of the last isn't looked at, so it may be missing", () -> {
            TaskTrace x = withRow(0, 3, IN, -1, -1, 4);
            c.due("of 4 elements", x.play(0, 0, 1, 0), 1);
            TaskTrace y = withRow(0, 3, IN, -1, -1, 4, 0, OUT, -1, -1, 5);
            c.due("of 9 elements", y.play(0, 0, 2, 0), 2);
        });
        c.test(33, "(MARKS ahead of that are taken all the same)", "two of three", () -> {
            TaskTrace x = withRow(0, 3, IN, -1, -1, 4, 0, OUT, -1, -1, 5, 0, IN, -1, -1);
            c.due("play", x.play(0, 0, 3, 0), PLACE);
            c.due("marks", x.count(3), 2);
            c.due("the host's", x.count(6), 1);
            c.due("marks refused", x.count(5), 0);
            c.due("the last", x.told(0, 1, 3), 5);
        });
        c.test(33, words, "a full row of 100 and 20 MARKS, one place too far", () -> {
            TaskTrace x = c.made(1, 1, 8);
            c.due("tape", x.tape(0, 3, 100), 100);
            for (int i = 0; i < 20; i++) {
                c.due("put", x.put(0, 5 * i + 2, LOST), 1);
                c.due("put", x.put(0, 5 * i + 3, -1), 1);
                c.due("put", x.put(0, 5 * i + 4, -1), 1);
            }
            c.due("from 2 on", x.play(0, 2, 20, 0), PLACE);
            c.due("marks", x.count(3), 19);
        });
    }

    private void playStops() {
        c.test(33, "up to the first that is refused: how many are taken", "the first, one between, and none", () -> {
            TaskTrace x = withRow(0, 3, OUT, -1, -1, 1, 0, IN, -1, -1, 2, 0, OUT, -1, -1, 3, 0, OUT, -1, -1, 4, 0, IN, -1, -1, 5, 0);
            c.due("the first is refused", x.play(0, 0, 5, 0), 0);
            c.due("marks refused", x.count(5), 1);
            c.due("the third is refused", x.play(0, 5, 4, 0), 2);
            c.due("marks refused", x.count(5), 2);
            c.due("those behind it aren't told", x.count(3), 2);
            c.due("none of the host's", x.count(6), 0);
        });
        c.test(33, "up to the first that is refused: how many are taken", "one that is refused ahead of a missing place", () -> {
            TaskTrace x = withRow(0, 3, IN, -1, -1, 1, 0, IN, -1, -1, 2, 0, OUT);
            c.due("play", x.play(0, 0, 3, 0), 1);
            c.due("marks refused", x.count(5), 1);
            c.due("none of the host's", x.count(6), 0);
        });
        c.test(33, "up to the first that is refused: how many are taken", "for each refusal of a MARK", () -> {
            TaskTrace x = withRow(0, 3, 13, -1, -1, 0, 0, OUT, -1, -1, 0, 0, SEND, -1, 7, 0, 0, LOST, -1, -1, 0, 0);
            c.tell(x, SEND, -1, 7, 0);
            for (int i = 0; i < 3; i++) {
                c.due("play", x.play(0, 5 * i, 1, 0), 0);
            }
            for (int i = 1; i < 200; i++) {
                c.due("mark", x.mark(0, LOST, -1, -1, 0), i);
            }
            c.due("full", x.play(0, 15, 1, 0), 0);
            c.due("marks refused", x.count(5), 4);
        });
        c.test(33, "up to the first that is refused: how many are taken", "the 200th is taken, the 201st is not", () -> {
            TaskTrace x = withRow(0, 3, LOST, -1, -1, 1, 0, LOST, -1, -1, 2, 0);
            for (int i = 0; i < 199; i++) {
                c.due("mark", x.mark(0, LOST, -1, -1, 0), i);
            }
            c.due("play", x.play(0, 0, 2, 0), 1);
            c.due("marks refused", x.count(5), 1);
            c.due("marks", x.count(10), 200);
        });
    }

    private void playRefused() {
        c.test(33, "NONE: no such TAPE, processor", "a tape below 0 or above 5", () -> {
            TaskTrace x = new TaskTrace();
            for (int d : NO_TAPES) {
                c.due("play(" + d + ", ..)", x.play(d, 0, 0, 0), NONE);
            }
        });
        c.test(33, "NONE: no such TAPE, processor", "a processor below 0 or from P on", () -> {
            TaskTrace x = withRow(0, 3, IN, -1, -1, 0, 0);
            for (int processor : new int[] {-1, MIN, 2, 3, MAX}) {
                c.due("play(.., " + processor + ")", x.play(0, 0, 1, processor), NONE);
            }
            c.due("no mark was refused", x.count(5), 0);
        });
        c.test(33, "n is not 0 .. 20", "-1 and 21", () -> {
            TaskTrace x = withRow(0, 3, IN, -1, -1, 0, 0);
            for (int n : new int[] {-1, MIN, 21, MAX}) {
                c.due("play(.., " + n + ", ..)", x.play(0, 0, n, 0), NONE);
            }
            c.due("no marks", x.count(3), 0);
        });
        c.test(33, "CAST: it is no row of ints", "rows of bytes, shorts and longs, and a COPY", () -> {
            TaskTrace x = new TaskTrace();
            for (int sort : new int[] {1, 2, 4}) {
                c.due("tape", x.tape(0, sort, 10), 10);
                c.due("play", x.play(0, 0, 1, 0), CAST);
            }
            c.due("keep", x.keep(0), 0);
            c.due("play", x.play(0, 0, 1, 0), CAST);
            c.due("n 0", x.play(0, 0, 0, 0), CAST);
        });
        c.test(33, "NOTHING (-11): nothing is held where something is wanted", "also with n 0", () -> {
            TaskTrace x = new TaskTrace();
            c.due("play", x.play(0, 0, 1, 0), NOTHING);
            c.due("n 0", x.play(0, 0, 0, 0), NOTHING);
        });
        c.test(33, FIRST_NAMED, "NONE ahead of NOTHING and CAST, and these ahead of PLACE", () -> {
            TaskTrace x = new TaskTrace();
            c.due("processor, nothing", x.play(0, 0, 1, 1), NONE);
            c.due("n, nothing", x.play(0, 0, 21, 0), NONE);
            c.due("nothing, place", x.play(0, -1, 1, 0), NOTHING);
            c.due("tape", x.tape(0, 1, 1), 1);
            c.due("processor, cast", x.play(0, 0, 1, 1), NONE);
            c.due("n, cast", x.play(0, 0, 21, 0), NONE);
            c.due("cast, place", x.play(0, -1, 1, 0), CAST);
            c.due("tape", x.tape(0, 3, 1), 1);
            c.due("processor, place", x.play(0, 9, 1, 1), NONE);
            c.due("n, place", x.play(0, 9, 21, 0), NONE);
            c.due("the host's", x.count(6), 2);
        });
    }

    // ---- promises 34, 35 and 36

    private void clear() {
        c.test(34, "TAPE d holds nothing: what it held (0 nothing, 1 .. 5)", "each of them, on the first and the last tape", () -> {
            TaskTrace x = new TaskTrace();
            for (int d : new int[] {0, 5}) {
                c.due("nothing", x.clear(d), 0);
                for (int sort = 1; sort <= 4; sort++) {
                    c.due("tape", x.tape(d, sort, 0), 0);
                    c.due("a row, though empty", x.clear(d), sort);
                    c.due("nothing then", x.clear(d), 0);
                }
                c.due("keep", x.keep(d), 0);
                c.due("a copy", x.clear(d), 5);
                c.due("nothing then", x.clear(d), 0);
            }
        });
        c.test(34, "TAPE d holds nothing: what it held (0 nothing, 1 .. 5)", "the other tapes stay", () -> {
            TaskTrace x = withRow(2, 4, 7);
            c.due("keep", x.keep(3), 0);
            c.due("clear", x.clear(1), 0);
            c.due("clear", x.clear(2), 4);
            c.due("the copy", x.back(3), 0);
            c.state("the row", () -> x.at(2, 0));
        });
        c.test(34, "NONE: no such TAPE", "below 0 or above 5", () -> {
            TaskTrace x = new TaskTrace();
            for (int d : NO_TAPES) {
                c.due("clear(" + d + ")", x.clear(d), NONE);
            }
        });
    }

    private void narrowed(int sort, long v, long due) {
        TaskTrace x = withRow(0, sort, 0, v, 0);
        rowIs(x, 0, 0, due, 0);
    }

    private void put() {
        String words = "Element i of the row on TAPE d becomes v, narrowed to its sort: 1";
        c.test(35, words, "bytes: the greatest and the least stay, one beyond wraps", () -> {
            narrowed(1, 127, 127);
            narrowed(1, -128, -128);
            narrowed(1, 128, -128);
            narrowed(1, -129, 127);
            narrowed(1, 256, 0);
            narrowed(1, Long.MAX_VALUE, -1);
            narrowed(1, Long.MIN_VALUE, 0);
        });
        c.test(35, words, "shorts: the greatest and the least stay, one beyond wraps", () -> {
            narrowed(2, 32767, 32767);
            narrowed(2, -32768, -32768);
            narrowed(2, 32768, -32768);
            narrowed(2, -32769, 32767);
            narrowed(2, 65536, 0);
            narrowed(2, Long.MAX_VALUE, -1);
        });
        c.test(35, words, "ints: the greatest and the least stay, one beyond wraps", () -> {
            narrowed(3, MAX, MAX);
            narrowed(3, MIN, MIN);
            narrowed(3, MAX + 1L, MIN);
            narrowed(3, MIN - 1L, MAX);
            narrowed(3, 1L << 32, 0);
            narrowed(3, Long.MAX_VALUE, -1);
        });
        c.test(35, words, "longs: the greatest and the least", () -> {
            narrowed(4, Long.MAX_VALUE, Long.MAX_VALUE);
            narrowed(4, Long.MIN_VALUE, Long.MIN_VALUE);
        });
        c.test(35, words, "the first and the last place of a row of 100", () -> {
            TaskTrace x = new TaskTrace();
            c.due("tape", x.tape(0, 4, 100), 100);
            c.due("first", x.put(0, 0, 5), 1);
            c.due("last", x.put(0, 99, 6), 1);
            c.due("first", x.at(0, 0), 5);
            c.due("last", x.at(0, 99), 6);
            c.due("the next to it stays", x.at(0, 1), 0);
        });
    }

    private void putRefused() {
        c.test(35, "NONE: no such TAPE; NOTHING; CAST; PLACE", "a tape below 0 or above 5", () -> {
            TaskTrace x = new TaskTrace();
            for (int d : NO_TAPES) {
                c.due("put(" + d + ", 0, 0)", x.put(d, 0, 0), NONE);
            }
        });
        c.test(35, "NONE: no such TAPE; NOTHING; CAST; PLACE", "nothing is held, or a COPY", () -> {
            TaskTrace x = new TaskTrace();
            c.due("nothing", x.put(5, 0, 0), NOTHING);
            c.due("keep", x.keep(5), 0);
            c.due("a copy", x.put(5, 0, 0), CAST);
        });
        c.test(35, "PLACE (-13): a row has no such place", "below 0 or from its length on, of an empty one too", () -> {
            TaskTrace x = withRow(0, 4, 7, 8);
            for (int i : new int[] {-1, MIN, 2, 99, 100, MAX}) {
                c.due("put(0, " + i + ", 9)", x.put(0, i, 9), PLACE);
            }
            rowIs(x, 0, 7, 8);
            c.due("tape", x.tape(0, 4, 0), 0);
            c.due("of an empty one", x.put(0, 0, 9), PLACE);
            c.due("tape", x.tape(0, 4, 100), 100);
            c.due("of the longest", x.put(0, 100, 9), PLACE);
        });
        c.test(35, FIRST_NAMED, "NOTHING and CAST ahead of PLACE", () -> {
            TaskTrace x = new TaskTrace();
            c.due("nothing", x.put(0, -1, 0), NOTHING);
            c.due("keep", x.keep(0), 0);
            c.due("cast", x.put(0, -1, 0), CAST);
            c.due("tape ahead of place", x.put(6, -1, 0), NONE);
        });
    }

    private void at() {
        c.test(36, "Element i of the row on TAPE d", "of each sort, the first and the last place", () -> {
            for (int sort = 1; sort <= 4; sort++) {
                rowIs(withRow(5, sort, -5, 6, -7), 5, -5, 6, -7);
            }
        });
        c.test(36, "IllegalArgumentException: no such TAPE", "below 0 or above 5", () -> {
            TaskTrace x = new TaskTrace();
            for (int d : NO_TAPES) {
                c.argument("at(" + d + ", 0)", () -> x.at(d, 0));
                c.argument("at(" + d + ", -1)", () -> x.at(d, -1));
            }
        });
        c.test(36, "IllegalStateException: it holds no row", "nothing, and a COPY", () -> {
            TaskTrace x = new TaskTrace();
            c.state("nothing", () -> x.at(0, 0));
            c.due("keep", x.keep(0), 0);
            c.state("a copy", () -> x.at(0, 0));
            c.due("tape", x.tape(0, 4, 1), 1);
            c.due("clear", x.clear(0), 4);
            c.state("cleared", () -> x.at(0, 0));
        });
        c.test(36, "or that has no such place", "below 0 or from its length on, of an empty one too", () -> {
            TaskTrace x = withRow(0, 4, 7, 8);
            for (int i : new int[] {-1, MIN, 2, 99, 100, MAX}) {
                c.state("at(0, " + i + ")", () -> x.at(0, i));
            }
            c.due("tape", x.tape(0, 4, 0), 0);
            c.state("of an empty one", () -> x.at(0, 0));
            c.due("tape", x.tape(0, 4, 100), 100);
            c.state("of the longest", () -> x.at(0, 100));
        });
    }

    // ---- promise 37

    private void copy() {
        c.test(37, "(as they all were before)", "one row onto itself, upwards, downwards and in place", () -> {
            TaskTrace x = withRow(0, 1, 1, 2, 3, 4, 5);
            c.due("up", x.copy(0, 0, 0, 1, 4), 4);
            rowIs(x, 0, 1, 1, 2, 3, 4);
            c.due("down", x.copy(0, 1, 0, 0, 4), 4);
            rowIs(x, 0, 1, 2, 3, 4, 4);
            c.due("in place", x.copy(0, 0, 0, 0, 5), 5);
            rowIs(x, 0, 1, 2, 3, 4, 4);
        });
        c.test(37, "n elements of the row on TAPE d from place i on go to the row on TAPE e from place j on", "of each sort, the rest of both stays", () -> {
            for (int sort = 1; sort <= 4; sort++) {
                TaskTrace x = withRow(0, sort, 1, 2, 3, 4);
                c.due("tape", x.tape(5, sort, 3), 3);
                c.due("copy", x.copy(0, 2, 5, 1, 2), 2);
                rowIs(x, 5, 0, 3, 4);
                rowIs(x, 0, 1, 2, 3, 4);
            }
        });
        c.test(37, "n elements of the row on TAPE d from place i on go to the row on TAPE e from place j on", "all 100", () -> {
            TaskTrace x = new TaskTrace();
            c.due("tape", x.tape(0, 2, 100), 100);
            c.due("tape", x.tape(1, 2, 100), 100);
            c.due("put", x.put(0, 0, 4), 1);
            c.due("put", x.put(0, 99, 5), 1);
            c.due("copy", x.copy(0, 0, 1, 0, 100), 100);
            c.due("first", x.at(1, 0), 4);
            c.due("last", x.at(1, 99), 5);
        });
    }

    private void copyPlaces() {
        String words = "PLACE: n, i or j is below 0, or a row has not so many";
        c.test(37, words, "n 0 at the ends of both rows, and of empty ones", () -> {
            TaskTrace x = withRow(0, 2, 1, 2, 3);
            c.due("tape", x.tape(1, 2, 0), 0);
            c.due("at the ends", x.copy(0, 3, 1, 0, 0), 0);
            c.due("of empty ones", x.copy(1, 0, 1, 0, 0), 0);
            c.due("behind the end of the one", x.copy(0, 4, 1, 0, 0), PLACE);
            c.due("behind the end of the other", x.copy(0, 0, 1, 1, 0), PLACE);
        });
        c.test(37, words, "n, i or j is -1 and less", () -> {
            TaskTrace x = withRow(0, 2, 1, 2, 3);
            for (int wrong : new int[] {-1, MIN}) {
                c.due("n", x.copy(0, 1, 0, 1, wrong), PLACE);
                c.due("i", x.copy(0, wrong, 0, 1, 1), PLACE);
                c.due("j", x.copy(0, 1, 0, wrong, 1), PLACE);
                c.due("i, with n 0", x.copy(0, wrong, 0, 1, 0), PLACE);
                c.due("j, with n 0", x.copy(0, 1, 0, wrong, 0), PLACE);
            }
            rowIs(x, 0, 1, 2, 3);
        });
        c.test(37, words, "one too many for the one row or the other; nothing goes then", () -> {
            TaskTrace x = withRow(0, 2, 1, 2, 3);
            c.due("tape", x.tape(1, 2, 2), 2);
            c.due("for the row on d", x.copy(1, 0, 0, 0, 3), PLACE);
            c.due("for the row on e", x.copy(0, 0, 1, 0, 3), PLACE);
            c.due("from i on", x.copy(0, 2, 1, 0, 2), PLACE);
            c.due("from j on", x.copy(0, 0, 1, 1, 2), PLACE);
            rowIs(x, 0, 1, 2, 3);
            rowIs(x, 1, 0, 0);
            c.due("so many go", x.copy(0, 1, 1, 0, 2), 2);
            rowIs(x, 1, 2, 3);
        });
        c.test(37, words, "sums that an int can't hold", () -> {
            TaskTrace x = withRow(0, 2, 1, 2, 3);
            c.due("n", x.copy(0, 1, 0, 1, MAX), PLACE);
            c.due("i", x.copy(0, MAX, 0, 0, 1), PLACE);
            c.due("j", x.copy(0, 0, 0, MAX, 1), PLACE);
            c.due("i and n", x.copy(0, MAX, 0, 0, MAX), PLACE);
            c.due("all", x.copy(0, MAX, 0, MAX, MAX), PLACE);
            rowIs(x, 0, 1, 2, 3);
        });
    }

    private void copyRefused() {
        c.test(37, "NONE: no such TAPE; NOTHING: of either", "d or e below 0 or above 5", () -> {
            TaskTrace x = withRow(0, 2, 1);
            for (int wrong : NO_TAPES) {
                c.due("d " + wrong, x.copy(wrong, 0, 0, 0, 1), NONE);
                c.due("e " + wrong, x.copy(0, 0, wrong, 0, 1), NONE);
            }
            c.due("none of the host's", x.count(6), 0);
        });
        c.test(37, "NONE: no such TAPE; NOTHING: of either", "d, e or both hold nothing, also with n 0", () -> {
            TaskTrace x = withRow(0, 2, 1);
            c.due("d", x.copy(1, 0, 0, 0, 1), NOTHING);
            c.due("e", x.copy(0, 0, 1, 0, 1), NOTHING);
            c.due("both", x.copy(1, 0, 2, 0, 0), NOTHING);
        });
        c.test(37, "CAST: one is no row, or they are of two sorts", "a COPY on either side, or on both", () -> {
            TaskTrace x = withRow(0, 2, 1);
            c.due("keep", x.keep(1), 0);
            c.due("d", x.copy(1, 0, 0, 0, 0), CAST);
            c.due("e", x.copy(0, 0, 1, 0, 0), CAST);
            c.due("both", x.copy(1, 0, 1, 0, 0), CAST);
        });
        c.test(37, "CAST: one is no row, or they are of two sorts", "each two sorts, also with n 0", () -> {
            TaskTrace x = new TaskTrace();
            for (int from = 1; from <= 4; from++) {
                for (int to = 1; to <= 4; to++) {
                    c.due("tape", x.tape(0, from, 3), 3);
                    c.due("tape", x.tape(1, to, 3), 3);
                    c.due("copy", x.copy(0, 0, 1, 0, 3), from == to ? 3 : CAST);
                    c.due("copy", x.copy(0, 0, 1, 0, 0), from == to ? 0 : CAST);
                }
            }
        });
        c.test(37, FIRST_NAMED, "NONE, NOTHING, CAST, PLACE in this order", () -> {
            TaskTrace x = withRow(0, 2, 1);
            c.due("keep", x.keep(1), 0);
            c.due("none, nothing", x.copy(2, 0, 6, 0, 0), NONE);
            c.due("none, cast", x.copy(-1, 0, 1, 0, 0), NONE);
            c.due("none, place", x.copy(6, -1, 0, 0, 0), NONE);
            c.due("nothing, cast", x.copy(1, 0, 2, 0, 0), NOTHING);
            c.due("nothing, cast", x.copy(2, 0, 1, 0, 0), NOTHING);
            c.due("nothing, place", x.copy(0, -1, 2, 0, 0), NOTHING);
            c.due("cast, place", x.copy(0, -1, 1, 0, -1), CAST);
            c.due("tape", x.tape(2, 3, 1), 1);
            c.due("two sorts, place", x.copy(0, -1, 2, 0, -1), CAST);
        });
    }

    // ---- promise 38

    private void count() {
        c.test(38, "0 P, 1 T, 2 W, 3 MARKS in all, 4 LAWS", "each of them", () -> {
            TaskTrace x = c.made(3, 7, 11);
            c.tell(x, IN, -1, -1, 0);
            c.tellOn(x, 2, IN, -1, -1, 0, OUT, -1, -1, 0);
            c.due("law", x.law(3, 0, 0, 0), 0);
            int[] due = {3, 7, 11, 3, 1, 0, 0};
            for (int what = 0; what < due.length; what++) {
                c.due("count(" + what + ")", x.count(what), due[what]);
            }
        });
        c.test(38, "10 + p: MARKS of processor p", "the first and the last, and one more", () -> {
            TaskTrace x = c.made(3, 1, 8);
            c.tellOn(x, 2, IN, -1, -1, 0, OUT, -1, -1, 0);
            c.due("count(10)", x.count(10), 0);
            c.due("count(12)", x.count(12), 2);
            c.due("count(13)", x.count(13), NONE);
            c.due("begin", x.begin(2, 1, 8), 2);
            c.due("count(11)", x.count(11), 0);
            c.due("count(12)", x.count(12), NONE);
        });
        c.test(38, "NONE for another what", "below 0, 7 to 9, above 12", () -> {
            TaskTrace x = c.made(3, 1, 8);
            for (int what : new int[] {-1, MIN, 7, 8, 9, 13, 14, MAX}) {
                c.due("count(" + what + ")", x.count(what), NONE);
            }
            c.due("asking is no refusal that is counted", x.count(5) + x.count(6), 0);
        });
        c.test(38, "5 MARKS refused since begin() (also by play())", "each refusal is one", () -> {
            TaskTrace x = withRow(0, 3, OUT, -1, -1, 0, 0);
            c.due("none", x.mark(2, IN, -1, -1, 0), NONE);
            c.due("bad", x.mark(0, OUT, -1, -1, 0), BAD);
            c.tell(x, SEND, -1, 0, 0);
            c.due("twice", x.mark(1, SEND, -1, 0, 0), TWICE);
            c.due("three", x.count(5), 3);
            c.due("play", x.play(0, 0, 1, 1), 0);
            c.due("four", x.count(5), 4);
            c.due("a refused play is none", x.play(0, 0, 1, 2), NONE);
            c.due("four", x.count(5), 4);
        });
        c.test(38, "5 MARKS refused since begin() (also by play())", "0 behind begin, but not behind a refused one", () -> {
            TaskTrace x = c.made(1, 1, 8);
            c.refused(x, BAD, OUT, -1, -1, 0);
            c.due("begin", x.begin(1, 1, 17), NONE);
            c.due("one", x.count(5), 1);
            c.due("begin", x.begin(1, 1, 8), 1);
            c.due("none", x.count(5), 0);
        });
    }

    private void countRefusals() {
        String words = "6 refusals of the host's (-11 to -15) since begin()";
        c.test(38, words, "each of the five, by each call that has it", () -> {
            TaskTrace x = withRow(0, 2, 1);
            c.due("keep", x.keep(1), 0);
            int[] got = {x.tape(0, 1, -1), x.back(5), x.back(0), x.toss(5), x.toss(0), x.toss(1), x.play(5, 0, 1, 0), x.play(0, 0, 1, 0),
                x.put(5, 0, 0), x.put(1, 0, 0), x.put(0, 1, 0), x.copy(0, 0, 5, 0, 0), x.copy(0, 0, 1, 0, 0), x.copy(0, 0, 0, 0, 2)};
            int[] due = {SIZE, NOTHING, CAST, NOTHING, CAST, THROWN, NOTHING, CAST, NOTHING, CAST, PLACE, NOTHING, CAST, PLACE};
            for (int i = 0; i < due.length; i++) {
                c.due("refusal " + i, got[i], due[i]);
            }
            c.due("count(6)", x.count(6), due.length);
            c.due("tape", x.tape(0, 3, 0), 0);
            c.due("play", x.play(0, 0, 1, 0), PLACE);
            c.due("count(6)", x.count(6), due.length + 1);
            c.due("no mark was refused", x.count(5), 0);
        });
        c.test(38, words, "NONE and the other refusals are not the host's", () -> {
            TaskTrace x = c.made(1, 1, 8);
            c.due("put", x.put(6, 0, 0), NONE);
            c.due("tape", x.tape(0, 1, 101), NONE);
            c.refused(x, BAD, OUT, -1, -1, 0);
            c.tell(x, SEND, -1, 0, 0);
            c.due("home", x.home(0, 0), STARTED);
            c.due("count(6)", x.count(6), 0);
        });
        c.test(38, words, "what is thrown is none of them", () -> {
            TaskTrace x = c.made(1, 1, 8);
            c.state("at", () -> x.at(0, 0));
            c.state("differ", () -> x.differ(0, 0, 0));
            c.argument("at", () -> x.at(6, 0));
            c.state("answer", () -> x.answer(0, 0));
            c.due("count(6)", x.count(6), 0);
        });
        c.test(38, words, "0 behind begin, but not behind a refused one", () -> {
            TaskTrace x = c.made(1, 1, 8);
            c.due("put", x.put(0, 0, 0), NOTHING);
            c.due("begin", x.begin(1, 9, 8), NONE);
            c.due("one", x.count(6), 1);
            c.due("begin", x.begin(1, 1, 8), 1);
            c.due("none", x.count(6), 0);
        });
        c.test(38, "3 MARKS in all, 4 LAWS", "behind back they are the COPY's, and none", () -> {
            TaskTrace x = c.made(1, 1, 8);
            c.tell(x, READY, 0, -1, 0, RUN, 0, -1, 0);
            c.due("keep", x.keep(0), 2);
            c.tell(x, LOCK, 0, 0, 0, FREE, 0, 0, 0, BLOCK, 0, -1, 0);
            c.due("law", x.law(3, 0, 0, 0), 0);
            c.due("marks", x.count(3), 5);
            c.due("back", x.back(0), 2);
            c.due("marks", x.count(3), 2);
            c.due("laws", x.count(4), 0);
        });
    }
}
