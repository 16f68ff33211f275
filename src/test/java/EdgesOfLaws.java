/** The boundary cases of promises 19 to 24: laws and their breaks, and clocks joined by letters. */
final class EdgesOfLaws {
    private static final int READY = Desk.READY, RUN = Desk.RUN, BLOCK = Desk.BLOCK, WANT = Desk.WANT, LOCK = Desk.LOCK;
    private static final int FREE = Desk.FREE, IN = Desk.IN, OUT = Desk.OUT, LOST = Desk.LOST;
    private static final int SEND = Desk.SEND, RECEIVE = Desk.RECEIVE, START = Desk.START, ANSWER = Desk.ANSWER;
    private static final int NONE = Desk.NONE, FULL = Desk.FULL, MIN = Desk.MIN, MAX = Desk.MAX;

    private final Desk c;

    private EdgesOfLaws(Desk c) {
        this.c = c;
    }

    static void run(Desk desk) {
        EdgesOfLaws edges = new EdgesOfLaws(desk);
        edges.lawForms();
        edges.lawsFull();
        edges.blockInTime();
        edges.blockAndLost();
        edges.blockMaybe();
        edges.lockInTime();
        edges.lockAndLost();
        edges.apart();
        edges.apartAndLost();
        edges.idling();
        edges.idlingNot();
        edges.kindsTogether();
        edges.breaksRefused();
        edges.broken();
        edges.agree();
        edges.agreeRound();
        edges.gap();
        edges.gapRefused();
        edges.answer();
        edges.answerRefused();
    }

    // ---- promise 19

    private void noLaws(int[][] laws) {
        TaskTrace x = c.made(2, 3, 8);
        for (int[] n : laws) {
            c.due("law(" + n[0] + ", " + n[1] + ", " + n[2] + ", " + n[3] + ")", x.law(n[0], n[1], n[2], n[3]), NONE);
        }
        c.due("no law was told", x.count(4), 0);
    }

    private void lawForms() {
        c.test(19, "NONE: no such KIND", "below 0 or above 3", () ->
            noLaws(new int[][] {{-1, 0, 0, 0}, {MIN, 0, 0, 0}, {4, 0, 0, 0}, {MAX, 0, 0, 0}}));
        c.test(19, "a is no TASK (0, 2)", "below 0 or from T on", () -> {
            for (int kind : new int[] {0, 2}) {
                noLaws(new int[][] {{kind, -1, 0, 1}, {kind, MIN, 0, 1}, {kind, 3, 0, 1}, {kind, 8, 0, 1}, {kind, MAX, 0, 1}});
            }
        });
        c.test(19, "or processor (1, 3)", "below 0 or from P on, though a TASK has that number", () -> {
            for (int kind : new int[] {1, 3}) {
                noLaws(new int[][] {{kind, -1, 0, 0}, {kind, MIN, 0, 0}, {kind, 2, 0, 0}, {kind, MAX, 0, 0}});
            }
        });
        c.test(19, "b is no LOCK (1)", "below 0 or above 3", () ->
            noLaws(new int[][] {{1, 0, -1, 0}, {1, 0, MIN, 0}, {1, 0, 4, 0}, {1, 0, MAX, 0}}));
        c.test(19, "or not 0 (others)", "b 1, -1 and more for KINDS 0, 2 and 3", () -> {
            for (int kind : new int[] {0, 2, 3}) {
                noLaws(new int[][] {{kind, 0, 1, 0}, {kind, 0, -1, 0}, {kind, 0, MIN, 0}, {kind, 0, MAX, 0}});
            }
        });
        c.test(19, "d is below 0", "for each KIND", () -> {
            for (int kind = 0; kind < 4; kind++) {
                noLaws(new int[][] {{kind, 0, 0, -1}, {kind, 0, 0, MIN}});
            }
        });
        c.test(19, "or not 0 (3)", "d 1 and the greatest", () -> noLaws(new int[][] {{3, 0, 0, 1}, {3, 0, 0, MAX}}));
        c.test(19, "A LAW is told: its number", "the least and the greatest of each number, of each KIND", () -> {
            TaskTrace x = c.made(2, 3, 8);
            int[][] laws = {{0, 0, 0, 0}, {0, 2, 0, MAX}, {1, 0, 0, 0}, {1, 1, 3, MAX}, {2, 0, 0, 0}, {2, 2, 0, MAX}, {3, 0, 0, 0}, {3, 1, 0, 0}};
            for (int i = 0; i < laws.length; i++) {
                c.due("law", x.law(laws[i][0], laws[i][1], laws[i][2], laws[i][3]), i);
            }
        });
    }

    private void lawsFull() {
        c.test(19, "FULL: 8", "the eighth is taken, the ninth is not", () -> {
            TaskTrace x = c.made(1, 1, 8);
            for (int i = 0; i < 8; i++) {
                c.due("law", x.law(2, 0, 0, i), i);
            }
            c.due("the ninth", x.law(2, 0, 0, 8), FULL);
            c.due("count(4)", x.count(4), 8);
        });
        c.test(19, "Of several refusals the one that is named first in a method's words is answered", "NONE ahead of FULL", () -> {
            TaskTrace x = c.made(1, 1, 8);
            for (int i = 0; i < 8; i++) {
                c.due("law", x.law(3, 0, 0, 0), i);
            }
            c.due("kind", x.law(4, 0, 0, 0), NONE);
            c.due("task", x.law(0, 1, 0, 0), NONE);
            c.due("b", x.law(0, 0, 1, 0), NONE);
            c.due("d", x.law(0, 0, 0, -1), NONE);
        });
        c.test(19, "FULL: 8", "no more behind back", () -> {
            TaskTrace x = c.made(1, 1, 8);
            c.due("keep", x.keep(0), 0);
            for (int i = 0; i < 8; i++) {
                c.due("law", x.law(3, 0, 0, 0), i);
            }
            c.due("back", x.back(0), 0);
            c.due("law", x.law(3, 0, 0, 0), 0);
        });
    }

    // ---- promise 20, KIND 0

    private static int[] row(int... times) {
        return times;
    }

    private void judged(TaskTrace x, int law, int[] sure, int[] maybe) {
        c.due("breaks(" + law + ", 0)", x.breaks(law, 0), sure.length);
        c.due("breaks(" + law + ", 1)", x.breaks(law, 1), maybe.length);
        for (int i = 0; i < sure.length; i++) {
            c.due("broken(" + law + ", 0, " + i + ")", x.broken(law, 0, i), sure[i]);
        }
        for (int i = 0; i < maybe.length; i++) {
            c.due("broken(" + law + ", 1, " + i + ")", x.broken(law, 1, i), maybe[i]);
        }
    }

    /** Two tasks under one law. */
    private TaskTrace under(int kind, int b, int d) {
        TaskTrace x = c.made(1, 2, 8);
        c.due("law", x.law(kind, 0, b, d), 0);
        return x;
    }

    private void blockInTime() {
        c.test(20, "from a MARK READY of TASK a to the BLOCK at most d", "d is kept, d and 1 isn't", () -> {
            TaskTrace x = under(0, 0, 5);
            c.tell(x, READY, 0, -1, 10, RUN, 0, -1, 12, BLOCK, 0, -1, 15, READY, 0, -1, 20, RUN, 0, -1, 20, BLOCK, 0, -1, 26);
            judged(x, 0, row(20), row());
        });
        c.test(20, "from a MARK READY of TASK a to the BLOCK at most d", "d 0", () -> {
            TaskTrace x = under(0, 0, 0);
            c.tell(x, READY, 0, -1, 10, RUN, 0, -1, 10, BLOCK, 0, -1, 10, READY, 0, -1, 20, RUN, 0, -1, 20, BLOCK, 0, -1, 21);
            judged(x, 0, row(20), row());
        });
        c.test(20, "from a MARK READY of TASK a to the BLOCK at most d", "the greatest d is never broken", () -> {
            TaskTrace x = under(0, 0, MAX);
            c.tell(x, READY, 0, -1, 10, RUN, 0, -1, 9, LOST, -1, -1, 8, LOST, -1, -1, 7);
            judged(x, 0, row(), row());
        });
        c.test(20, "or the processor's last MARK", "d is kept, d and 1 isn't", () -> {
            TaskTrace x = under(0, 0, 5);
            c.tell(x, READY, 0, -1, 10);
            judged(x, 0, row(), row());
            c.tell(x, RUN, 0, -1, 15);
            judged(x, 0, row(), row());
            c.tell(x, SEND, -1, 0, 16);
            judged(x, 0, row(10), row());
        });
        c.test(20, "for each READY a at TIME r: up to the first of its MARKS BLOCK a", "another task's BLOCK and READY don't end it", () -> {
            TaskTrace x = under(0, 0, 5);
            c.tell(x, READY, 0, -1, 0, READY, 1, -1, 0, RUN, 1, -1, 0, BLOCK, 1, -1, 1, READY, 1, -1, 2, RUN, 0, -1, 3, BLOCK, 0, -1, 6);
            judged(x, 0, row(0), row());
        });
        c.test(20, "for each READY a at TIME r: up to the first of its MARKS BLOCK a", "another processor's marks don't matter", () -> {
            TaskTrace x = c.made(2, 2, 8);
            c.due("home", x.home(1, 1), 0);
            c.due("law", x.law(0, 1, 0, 5), 0);
            c.tellOn(x, 1, READY, 1, -1, 10, RUN, 1, -1, 10);
            c.tell(x, LOST, -1, -1, 90);
            judged(x, 0, row(), row());
        });
        c.test(20, "(A READY from UNKNOWN is one as well.)", "though it is no JOB", () -> {
            TaskTrace x = under(0, 0, 5);
            c.tell(x, LOST, -1, -1, 0, READY, 0, -1, 1, RUN, 0, -1, 2, BLOCK, 0, -1, 7);
            c.due("jobs", x.jobs(0), 0);
            judged(x, 0, row(1), row());
        });
        c.test(20, "BREAKS are SURE or MAYBE", "none without marks; a LAW told behind the marks judges them too", () -> {
            TaskTrace x = c.made(1, 1, 8);
            c.due("law", x.law(0, 0, 0, 5), 0);
            judged(x, 0, row(), row());
            c.tell(x, READY, 0, -1, 0, RUN, 0, -1, 6);
            c.due("law", x.law(0, 0, 0, 4), 1);
            judged(x, 1, row(0), row());
        });
    }

    private void blockAndLost() {
        String sure = "LOST: SURE if the TIME of the MARK ahead of it less r is above d";
        c.test(20, sure, "the mark ahead at d is not, at d and 1 it is", () -> {
            TaskTrace x = under(0, 0, 5);
            c.tell(x, READY, 0, -1, 0, SEND, -1, 0, 5, LOST, -1, -1, 5, RUN, 0, -1, 5);
            judged(x, 0, row(), row());
            TaskTrace y = under(0, 0, 5);
            c.tell(y, READY, 0, -1, 0, SEND, -1, 0, 6, LOST, -1, -1, 6, RUN, 0, -1, 6);
            judged(y, 0, row(0), row());
        });
        c.test(20, sure, "the READY itself is the mark ahead", () -> {
            TaskTrace x = under(0, 0, 0);
            c.tell(x, READY, 0, -1, 7, LOST, -1, -1, 7);
            judged(x, 0, row(), row());
            c.tell(x, RUN, 0, -1, 8);
            judged(x, 0, row(), row(7));
        });
        c.test(20, "or the last MARK (not LOST)", "the last MARK is LOST: its own TIME makes it MAYBE alone", () -> {
            TaskTrace x = under(0, 0, 5);
            c.tell(x, READY, 0, -1, 0, RUN, 0, -1, 1, LOST, -1, -1, 6);
            judged(x, 0, row(), row(0));
            TaskTrace y = under(0, 0, 5);
            c.tell(y, READY, 0, -1, 0, RUN, 0, -1, 1, LOST, -1, -1, 5);
            judged(y, 0, row(), row());
        });
        c.test(20, sure, "what is SURE isn't MAYBE as well", () -> {
            TaskTrace x = under(0, 0, 5);
            c.tell(x, READY, 0, -1, 0, RUN, 0, -1, 6, LOST, -1, -1, 20, READY, 0, -1, 40);
            judged(x, 0, row(0), row());
        });
        c.test(20, "for each READY a at TIME r: up to the first of its MARKS BLOCK a, LOST", "a BLOCK ahead of the LOST ends it", () -> {
            TaskTrace x = under(0, 0, 5);
            c.tell(x, READY, 0, -1, 0, RUN, 0, -1, 1, BLOCK, 0, -1, 5, LOST, -1, -1, 30, RUN, 0, -1, 40);
            judged(x, 0, row(), row());
        });
    }

    private void blockMaybe() {
        String maybe = "else MAYBE if the TIME of the first MARK READY a or RUN a behind it";
        c.test(20, maybe, "a RUN at d, and at d and 1", () -> {
            TaskTrace x = under(0, 0, 5);
            c.tell(x, READY, 0, -1, 0, LOST, -1, -1, 1, RUN, 0, -1, 5, SEND, -1, 0, 50);
            judged(x, 0, row(), row());
            TaskTrace y = under(0, 0, 5);
            c.tell(y, READY, 0, -1, 0, LOST, -1, -1, 1, RUN, 0, -1, 6);
            judged(y, 0, row(), row(0));
        });
        c.test(20, maybe, "a READY at d, and at d and 1", () -> {
            TaskTrace x = under(0, 0, 5);
            c.tell(x, READY, 0, -1, 0, LOST, -1, -1, 1, READY, 0, -1, 5, LOST, -1, -1, 5, RUN, 0, -1, 5, SEND, -1, 0, 50);
            judged(x, 0, row(), row());
            TaskTrace y = under(0, 0, 5);
            c.tell(y, READY, 0, -1, 0, LOST, -1, -1, 1, READY, 0, -1, 6);
            judged(y, 0, row(), row(0));
        });
        c.test(20, maybe, "another task's READY and RUN are no sign of it", () -> {
            TaskTrace x = under(0, 0, 5);
            c.tell(x, READY, 0, -1, 0, LOST, -1, -1, 1, READY, 1, -1, 2, RUN, 1, -1, 3, RUN, 0, -1, 6);
            judged(x, 0, row(), row(0));
        });
        c.test(20, maybe, "a second LOST is none either", () -> {
            TaskTrace x = under(0, 0, 5);
            c.tell(x, READY, 0, -1, 0, LOST, -1, -1, 1, LOST, -1, -1, 2, RUN, 0, -1, 6);
            judged(x, 0, row(), row(0));
        });
        c.test(20, "(the processor's last MARK, if there is none)", "at d, and at d and 1", () -> {
            TaskTrace x = under(0, 0, 5);
            c.tell(x, READY, 0, -1, 0, LOST, -1, -1, 1, SEND, -1, 0, 5);
            judged(x, 0, row(), row());
            c.tell(x, SEND, -1, 1, 6);
            judged(x, 0, row(), row(0));
        });
        c.test(20, "It begins at r", "in order: SURE and MAYBE each in theirs", () -> {
            TaskTrace x = under(0, 0, 5);
            c.tell(x, READY, 0, -1, 0, LOST, -1, -1, 1, READY, 0, -1, 6, RUN, 0, -1, 7, BLOCK, 0, -1, 12, READY, 0, -1, 20);
            c.tell(x, SEND, -1, 0, 30, LOST, -1, -1, 31, READY, 0, -1, 32, LOST, -1, -1, 33, RUN, 0, -1, 38);
            judged(x, 0, row(6, 20), row(0, 32));
        });
    }

    // ---- promise 20, KIND 1

    private void lockInTime() {
        c.test(20, "LOCK b of processor a is held at most d at a time", "d is kept, d and 1 isn't", () -> {
            TaskTrace x = under(1, 2, 5);
            c.tell(x, READY, 0, -1, 0, RUN, 0, -1, 0, LOCK, 0, 2, 10, FREE, 0, 2, 15, LOCK, 0, 2, 20, FREE, 0, 2, 26);
            judged(x, 0, row(20), row());
        });
        c.test(20, "LOCK b of processor a is held at most d at a time", "d 0, and twice d in two times", () -> {
            TaskTrace x = under(1, 0, 0);
            c.tell(x, READY, 0, -1, 0, RUN, 0, -1, 0, LOCK, 0, 0, 1, FREE, 0, 0, 1, LOCK, 0, 0, 1, FREE, 0, 0, 2);
            judged(x, 0, row(1), row());
            TaskTrace y = under(1, 0, 5);
            c.tell(y, READY, 0, -1, 0, RUN, 0, -1, 0, LOCK, 0, 0, 1, FREE, 0, 0, 6, LOCK, 0, 0, 6, FREE, 0, 0, 11);
            judged(y, 0, row(), row());
        });
        c.test(20, "up to the first FREE b, LOST, or the last MARK", "the last MARK at d, and at d and 1", () -> {
            TaskTrace x = under(1, 3, 5);
            c.tell(x, READY, 0, -1, 0, RUN, 0, -1, 0, LOCK, 0, 3, 1);
            judged(x, 0, row(), row());
            c.tell(x, SEND, -1, 0, 6);
            judged(x, 0, row(), row());
            c.tell(x, SEND, -1, 1, 7);
            judged(x, 0, row(1), row());
        });
        c.test(20, "up to the first FREE b, LOST, or the last MARK", "another LOCK's FREE and its holder's BLOCK don't end it", () -> {
            TaskTrace x = under(1, 2, 5);
            c.tell(x, READY, 0, -1, 0, RUN, 0, -1, 0, LOCK, 0, 2, 0, LOCK, 0, 1, 0, FREE, 0, 1, 1, BLOCK, 0, -1, 2, SEND, -1, 0, 6);
            judged(x, 0, row(0), row());
        });
        c.test(20, "likewise from each LOCK b of the processor", "one got by a task that was WANTING begins at its own LOCK", () -> {
            TaskTrace x = under(1, 2, 5);
            c.tell(x, READY, 0, -1, 0, RUN, 0, -1, 0, LOCK, 0, 2, 0, READY, 1, -1, 0, RUN, 1, -1, 1, WANT, 1, 2, 1, RUN, 0, -1, 2);
            c.tell(x, FREE, 0, 2, 5, LOCK, 1, 2, 9, SEND, -1, 0, 15);
            judged(x, 0, row(9), row());
        });
        c.test(20, "likewise from each LOCK b of the processor", "the LOCK of that number on another processor is not it", () -> {
            TaskTrace x = c.made(2, 2, 8);
            c.due("home", x.home(1, 1), 0);
            c.due("law", x.law(1, 0, 2, 5), 0);
            c.due("law", x.law(1, 1, 2, 5), 1);
            c.tellOn(x, 1, READY, 1, -1, 0, RUN, 1, -1, 0, LOCK, 1, 2, 4, SEND, -1, 0, 90);
            judged(x, 0, row(), row());
            judged(x, 1, row(4), row());
        });
    }

    private void lockAndLost() {
        String words = "with LOST: SURE by the MARK ahead of it, else MAYBE by its own TIME";
        c.test(20, words, "the mark ahead at d, and at d and 1", () -> {
            TaskTrace x = under(1, 2, 5);
            c.tell(x, READY, 0, -1, 0, RUN, 0, -1, 0, LOCK, 0, 2, 1, SEND, -1, 0, 6, LOST, -1, -1, 6);
            judged(x, 0, row(), row());
            TaskTrace y = under(1, 2, 5);
            c.tell(y, READY, 0, -1, 0, RUN, 0, -1, 0, LOCK, 0, 2, 1, SEND, -1, 0, 7, LOST, -1, -1, 7);
            judged(y, 0, row(1), row());
        });
        c.test(20, words, "its own TIME at d, and at d and 1", () -> {
            TaskTrace x = under(1, 2, 5);
            c.tell(x, READY, 0, -1, 0, RUN, 0, -1, 0, LOCK, 0, 2, 1, LOST, -1, -1, 6, SEND, -1, 0, 90);
            judged(x, 0, row(), row());
            TaskTrace y = under(1, 2, 5);
            c.tell(y, READY, 0, -1, 0, RUN, 0, -1, 0, LOCK, 0, 2, 1, LOST, -1, -1, 7);
            judged(y, 0, row(), row(1));
        });
        c.test(20, words, "no sign behind it lengthens it", () -> {
            TaskTrace x = under(1, 2, 5);
            c.tell(x, READY, 0, -1, 0, RUN, 0, -1, 0, LOCK, 0, 2, 1, LOST, -1, -1, 5, RUN, 0, -1, 80, LOCK, 0, 2, 90, FREE, 0, 2, 91);
            judged(x, 0, row(), row());
        });
        c.test(20, "It begins at the LOCK", "in order", () -> {
            TaskTrace x = under(1, 2, 1);
            c.tell(x, READY, 0, -1, 0, RUN, 0, -1, 0, LOCK, 0, 2, 3, FREE, 0, 2, 5, LOCK, 0, 2, 6, LOST, -1, -1, 8, RUN, 0, -1, 9);
            c.tell(x, LOCK, 0, 2, 10, FREE, 0, 2, 12, LOCK, 0, 2, 13, LOST, -1, -1, 20);
            judged(x, 0, row(3, 10), row(6, 13));
        });
    }

    // ---- promise 20, KIND 2

    private void apart() {
        c.test(20, "from a READY of TASK a to the next at least d", "d is kept, d less 1 isn't", () -> {
            TaskTrace x = under(2, 0, 10);
            c.tell(x, READY, 0, -1, 0, RUN, 0, -1, 0, BLOCK, 0, -1, 1, READY, 0, -1, 10, RUN, 0, -1, 10, BLOCK, 0, -1, 11);
            c.tell(x, READY, 0, -1, 19, RUN, 0, -1, 19, BLOCK, 0, -1, 20, READY, 0, -1, 30);
            judged(x, 0, row(10), row());
        });
        c.test(20, "from a READY of TASK a to the next at least d", "d 0 is never broken for sure, d 1 by two at one time", () -> {
            TaskTrace x = under(2, 0, 0);
            c.due("law", x.law(2, 0, 0, 1), 1);
            c.tell(x, READY, 0, -1, 4, RUN, 0, -1, 4, BLOCK, 0, -1, 4, READY, 0, -1, 4);
            judged(x, 0, row(), row());
            judged(x, 1, row(4), row());
        });
        c.test(20, "for each two READY a that follow one another", "one alone is no two", () -> {
            TaskTrace x = under(2, 0, MAX);
            c.tell(x, READY, 0, -1, 4, RUN, 0, -1, 5, BLOCK, 0, -1, 90);
            judged(x, 0, row(), row());
        });
        c.test(20, "for each two READY a that follow one another", "three are two times two; another task's don't come between", () -> {
            TaskTrace x = under(2, 0, MAX);
            c.tell(x, READY, 0, -1, 1, RUN, 0, -1, 1, BLOCK, 0, -1, 2, READY, 1, -1, 3, READY, 0, -1, 4, RUN, 0, -1, 4, BLOCK, 0, -1, 5);
            c.tell(x, READY, 0, -1, 6);
            judged(x, 0, row(1, 4), row());
        });
    }

    private void apartAndLost() {
        c.test(20, "else MAYBE if there is a LOST between", "what is SURE isn't MAYBE as well", () -> {
            TaskTrace x = under(2, 0, 10);
            c.tell(x, READY, 0, -1, 0, LOST, -1, -1, 5, READY, 0, -1, 9);
            judged(x, 0, row(0), row());
        });
        c.test(20, "else MAYBE if there is a LOST between", "from d on, however far apart", () -> {
            TaskTrace x = under(2, 0, 10);
            c.tell(x, READY, 0, -1, 0, LOST, -1, -1, 5, READY, 0, -1, 10, LOST, -1, -1, 11, READY, 0, -1, 200);
            judged(x, 0, row(), row(0, 10));
        });
        c.test(20, "else MAYBE if there is a LOST between", "not one ahead of the first or behind the second", () -> {
            TaskTrace x = under(2, 0, 10);
            c.tell(x, LOST, -1, -1, 0, READY, 0, -1, 1, RUN, 0, -1, 1, BLOCK, 0, -1, 2, READY, 0, -1, 11, LOST, -1, -1, 12);
            judged(x, 0, row(), row());
        });
        c.test(20, "else MAYBE if there is a LOST between", "another processor's LOST is not between", () -> {
            TaskTrace x = c.made(2, 1, 8);
            c.due("law", x.law(2, 0, 0, 10), 0);
            c.tell(x, READY, 0, -1, 0, RUN, 0, -1, 1);
            c.tellOn(x, 1, LOST, -1, -1, 5);
            c.tell(x, BLOCK, 0, -1, 6, READY, 0, -1, 10);
            judged(x, 0, row(), row());
        });
        c.test(20, "It begins at the first", "also with d 0 and a LOST between", () -> {
            TaskTrace x = under(2, 0, 0);
            c.tell(x, READY, 0, -1, 9, LOST, -1, -1, 9, LOST, -1, -1, 9, READY, 0, -1, 9);
            judged(x, 0, row(), row(9));
        });
    }

    // ---- promise 20, KIND 3

    private void idling() {
        c.test(20, "processor a never does nothing", "each stretch is one, and begins at its MARK", () -> {
            TaskTrace x = under(3, 0, 0);
            c.tell(x, SEND, -1, 0, 3, READY, 1, -1, 5, SEND, -1, 1, 6, SEND, -1, 2, 8, RUN, 1, -1, 9, SEND, -1, 3, 20);
            judged(x, 0, row(5, 6, 8), row());
        });
        c.test(20, "longer than 0)", "a stretch of length 0 is none, of length 1 it is", () -> {
            TaskTrace x = under(3, 0, 0);
            c.tell(x, READY, 1, -1, 5, SEND, -1, 1, 5, SEND, -1, 2, 6);
            judged(x, 0, row(5), row());
            TaskTrace y = under(3, 0, 0);
            c.tell(y, READY, 1, -1, 5, SEND, -1, 1, 5);
            judged(y, 0, row(), row());
        });
        c.test(20, "3: each such STRETCH: SURE; it begins at its MARK", "as many as 200 marks have", () -> {
            TaskTrace x = under(3, 0, 0);
            c.tell(x, READY, 0, -1, 0);
            for (int i = 0; i < 199; i++) {
                c.due("mark", x.mark(0, SEND + i / 64, -1, i % 64, i + 1), i + 1);
            }
            c.due("sure", x.breaks(0, 0), 199);
            c.due("the last", x.broken(0, 0, 198), 198);
            c.due("one more", x.broken(0, 0, 199), NONE);
        });
        c.test(20, "3: each such STRETCH: SURE; it begins at its MARK", "the last MARK has none", () -> {
            TaskTrace x = under(3, 0, 0);
            c.tell(x, READY, 0, -1, 5);
            judged(x, 0, row(), row());
        });
    }

    private void idlingNot() {
        c.test(20, "(IN neither, STRETCH not DARK, longer than 0)", "IN is not doing nothing", () -> {
            TaskTrace x = under(3, 0, 0);
            c.tell(x, READY, 0, -1, 0, IN, -1, -1, 0, OUT, -1, -1, 9);
            judged(x, 0, row(), row());
        });
        c.test(20, "(IN neither, STRETCH not DARK, longer than 0)", "a dark stretch, by LOST or by an UNKNOWN CURRENT TASK", () -> {
            TaskTrace x = under(3, 0, 0);
            c.tell(x, READY, 0, -1, 0, LOST, -1, -1, 5, READY, 0, -1, 5, SEND, -1, 0, 9);
            judged(x, 0, row(), row());
        });
        c.test(20, "while one of its TASKS counts as READY", "with a CURRENT TASK it is not doing nothing", () -> {
            TaskTrace x = under(3, 0, 0);
            c.tell(x, READY, 0, -1, 0, READY, 1, -1, 0, RUN, 0, -1, 0, SEND, -1, 0, 9);
            judged(x, 0, row(), row());
        });
        c.test(20, "while one of its TASKS counts as READY", "tasks that are IDLE, WANTING or UNKNOWN are not", () -> {
            TaskTrace x = c.made(1, 3, 8);
            c.due("law", x.law(3, 0, 0, 0), 0);
            c.tell(x, LOST, -1, -1, 0, RUN, 0, -1, 0, LOCK, 0, 0, 0, RUN, 1, -1, 0, WANT, 1, 0, 0, RUN, 0, -1, 0, BLOCK, 0, -1, 0);
            c.tell(x, SEND, -1, 0, 9);
            judged(x, 0, row(), row());
            c.tell(x, READY, 2, -1, 9, SEND, -1, 1, 10);
            judged(x, 0, row(9), row());
        });
        c.test(20, "while one of its TASKS counts as READY", "another processor's TASK is none of its", () -> {
            TaskTrace x = c.made(2, 2, 8);
            c.due("home", x.home(1, 1), 0);
            c.due("law", x.law(3, 0, 0, 0), 0);
            c.due("law", x.law(3, 1, 0, 0), 1);
            c.tellOn(x, 1, READY, 1, -1, 2, SEND, -1, 0, 9);
            c.tell(x, SEND, -1, 1, 0, SEND, -1, 2, 90);
            judged(x, 0, row(), row());
            judged(x, 1, row(2), row());
        });
    }

    private void kindsTogether() {
        c.test(20, "BREAKS are SURE or MAYBE, each with the TIME at which it begins, in order", "each KIND has its own, of one trace that breaks all", () -> {
            TaskTrace x = c.made(1, 1, 8);
            int[][] laws = {{0, 0, 0, 3}, {1, 0, 0, 3}, {2, 0, 0, 30}, {3, 0, 0, 0}};
            for (int i = 0; i < laws.length; i++) {
                c.due("law", x.law(laws[i][0], laws[i][1], laws[i][2], laws[i][3]), i);
            }
            c.tell(x, READY, 0, -1, 1, RUN, 0, -1, 2, LOCK, 0, 0, 3, FREE, 0, 0, 8, LOCK, 0, 0, 9, BLOCK, 0, -1, 10);
            c.tell(x, READY, 0, -1, 20, RUN, 0, -1, 21, SEND, -1, 0, 22, LOST, -1, -1, 25, READY, 0, -1, 60);
            judged(x, 0, row(1), row(20));
            judged(x, 1, row(3, 9), row());
            judged(x, 2, row(1), row(20));
            judged(x, 3, row(1, 20), row());
        });
        c.test(20, "BREAKS are SURE or MAYBE, each with the TIME at which it begins, in order", "two LAWS asked in turn", () -> {
            TaskTrace x = c.made(1, 1, 8);
            c.due("law", x.law(0, 0, 0, 3), 0);
            c.due("law", x.law(0, 0, 0, 9), 1);
            c.tell(x, READY, 0, -1, 1, RUN, 0, -1, 2, BLOCK, 0, -1, 6);
            for (int turn = 0; turn < 2; turn++) {
                judged(x, 0, row(1), row());
                judged(x, 1, row(), row());
            }
        });
    }

    private void breaksRefused() {
        c.test(20, "NONE: no such LAW, what", "a LAW below 0 or from their number on", () -> {
            TaskTrace x = under(3, 0, 0);
            for (int law : new int[] {-1, MIN, 1, 7, 8, MAX}) {
                c.due("breaks(" + law + ", 0)", x.breaks(law, 0), NONE);
            }
        });
        c.test(20, "NONE: no such LAW, what", "what below 0 or above 1", () -> {
            TaskTrace x = under(3, 0, 0);
            for (int what : new int[] {-1, MIN, 2, MAX}) {
                c.due("breaks(0, " + what + ")", x.breaks(0, what), NONE);
            }
        });
        c.test(20, "How many BREAKS of a LAW: what 0 SURE, 1 MAYBE", "of the eighth", () -> {
            TaskTrace x = c.made(1, 1, 8);
            for (int i = 0; i < 8; i++) {
                c.due("law", x.law(0, 0, 0, i), i);
            }
            c.tell(x, READY, 0, -1, 0, SEND, -1, 0, 8);
            c.due("d 7", x.breaks(7, 0), 1);
            c.due("nor MAYBE", x.breaks(7, 1), 0);
        });
    }

    // ---- promise 21

    private void broken() {
        c.test(21, "When the i-th SURE (what 0) or MAYBE (1) BREAK of a LAW begins", "times behind a wrap of the clock", () -> {
            TaskTrace x = c.made(1, 1, 4);
            c.due("law", x.law(3, 0, 0, 0), 0);
            c.tell(x, SEND, -1, 0, 15, READY, 0, -1, 14, SEND, -1, 1, 13);
            c.due("broken", x.broken(0, 0, 0), 30);
        });
        c.test(21, "When the i-th SURE (what 0) or MAYBE (1) BREAK of a LAW begins", "at TIME 0", () -> {
            TaskTrace x = under(3, 0, 0);
            c.tell(x, READY, 0, -1, 0, SEND, -1, 1, 1);
            c.due("broken", x.broken(0, 0, 0), 0);
        });
        c.test(21, "NONE: there is none", "i below 0 or from their number on, of each sort", () -> {
            TaskTrace x = under(2, 0, 10);
            c.tell(x, READY, 0, -1, 3, LOST, -1, -1, 4, READY, 0, -1, 5, LOST, -1, -1, 6, READY, 0, -1, 20);
            c.due("sure", x.broken(0, 0, 0), 3);
            c.due("maybe", x.broken(0, 1, 0), 5);
            for (int i : new int[] {-1, MIN, 1, 199, 200, MAX}) {
                c.due("broken(0, 0, " + i + ")", x.broken(0, 0, i), NONE);
                c.due("broken(0, 1, " + i + ")", x.broken(0, 1, i), NONE);
            }
        });
        c.test(21, "NONE: there is none", "a LAW below 0 or from their number on", () -> {
            TaskTrace x = under(3, 0, 0);
            c.tell(x, READY, 0, -1, 3, SEND, -1, 1, 5);
            for (int law : new int[] {-1, MIN, 1, 8, MAX}) {
                c.due("broken(" + law + ", 0, 0)", x.broken(law, 0, 0), NONE);
            }
        });
        c.test(21, "NONE: there is none", "what below 0 or above 1", () -> {
            TaskTrace x = under(2, 0, 10);
            c.tell(x, READY, 0, -1, 3, LOST, -1, -1, 4, READY, 0, -1, 5, LOST, -1, -1, 6, READY, 0, -1, 20);
            for (int what : new int[] {-1, MIN, 2, MAX}) {
                c.due("broken(0, " + what + ", 0)", x.broken(0, what, 0), NONE);
            }
        });
    }

    // ---- promise 22

    private void agree() {
        String words = "s + OFF(p) is at most r + OFF(q)";
        c.test(22, words, "on one processor: received when it is sent, and one ahead of that", () -> {
            TaskTrace x = c.made(1, 1, 8);
            c.tell(x, RECEIVE, -1, 0, 7, SEND, -1, 0, 7);
            c.due("at one time", x.agree(), 1);
            c.tell(x, RECEIVE, -1, 63, 7, SEND, -1, 63, 8);
            c.due("one ahead", x.agree(), 0);
        });
        c.test(22, words, "TIMES, not CLOCKS", () -> {
            TaskTrace x = c.made(1, 1, 4);
            c.tell(x, SEND, -1, 0, 9, RECEIVE, -1, 0, 3);
            c.due("received behind a wrap", x.agree(), 1);
            c.tell(x, RECEIVE, -1, 1, 5, SEND, -1, 1, 4);
            c.due("sent behind a wrap", x.agree(), 0);
        });
        c.test(22, "A SEND x on p at TIME s and a RECEIVE x on q at TIME r", "one of them alone binds nothing", () -> {
            TaskTrace x = c.made(2, 1, 8);
            c.tell(x, RECEIVE, -1, 0, 0, SEND, -1, 1, 5);
            c.due("agree", x.agree(), 1);
            c.state("gap", () -> x.gap(0, 1, 0));
        });
        c.test(22, "A SEND x on p at TIME s and a RECEIVE x on q at TIME r", "of two x they are no pair", () -> {
            TaskTrace x = c.made(1, 1, 8);
            c.tell(x, RECEIVE, -1, 0, 0, SEND, -1, 1, 5);
            c.due("agree", x.agree(), 1);
        });
        c.test(22, "A SEND x on p at TIME s and a RECEIVE x on q at TIME r", "START and ANSWER bind nothing", () -> {
            TaskTrace x = c.made(1, 1, 8);
            c.tell(x, ANSWER, -1, 0, 0, START, -1, 0, 5, ANSWER, -1, 1, 6, RECEIVE, -1, 1, 7);
            c.due("agree", x.agree(), 1);
            c.due("answer", x.answer(0, 0), -5);
        });
        c.test(22, "Whether the OFFS AGREE (1, 0)", "no more behind begin", () -> {
            TaskTrace x = c.made(1, 1, 8);
            c.tell(x, RECEIVE, -1, 0, 0, SEND, -1, 0, 5);
            c.due("agree", x.agree(), 0);
            c.due("begin", x.begin(1, 1, 8), 1);
            c.due("agree", x.agree(), 1);
        });
    }

    private void agreeRound() {
        c.test(22, "The OFFS AGREE if some numbers keep all of these", "two processors: with 0 to spare, and 1 too few", () -> {
            TaskTrace x = c.made(2, 1, 8);
            c.tell(x, SEND, -1, 0, 100, RECEIVE, -1, 1, 110);
            c.tellOn(x, 1, RECEIVE, -1, 0, 40, SEND, -1, 1, 50);
            c.due("GAP 60 and 60", x.agree(), 1);
            TaskTrace y = c.made(2, 1, 8);
            c.tell(y, SEND, -1, 0, 100, RECEIVE, -1, 1, 110);
            c.tellOn(y, 1, RECEIVE, -1, 0, 40, SEND, -1, 1, 51);
            c.due("GAP 60 at least and 59 at most", y.agree(), 0);
        });
        c.test(22, "The OFFS AGREE if some numbers keep all of these", "three in a round: with 0 to spare, and 1 too few", () -> {
            c.due("0 to spare", round(30).agree(), 1);
            c.due("1 too few", round(31).agree(), 0);
        });
        c.test(22, "The OFFS AGREE if some numbers keep all of these", "a quarrel of two processors without OFF(0)", () -> {
            TaskTrace x = c.made(3, 1, 8);
            c.tellOn(x, 1, SEND, -1, 0, 100, RECEIVE, -1, 1, 110);
            c.tellOn(x, 2, RECEIVE, -1, 0, 40, SEND, -1, 1, 51);
            c.due("agree", x.agree(), 0);
            c.state("gap of the third with itself", () -> x.gap(0, 0, 0));
        });
    }

    /** The GAP from 0 to 1 is at least -10, from 1 to 2 at least -20, and from 2 to 0 at least what is asked for. */
    private TaskTrace round(int back) {
        TaskTrace x = c.made(3, 1, 8);
        c.tell(x, SEND, -1, 0, 10);
        c.tellOn(x, 1, RECEIVE, -1, 0, 20, SEND, -1, 1, 20);
        c.tellOn(x, 2, RECEIVE, -1, 1, 40, SEND, -1, 2, 20 + back);
        c.tell(x, RECEIVE, -1, 2, 20);
        return x;
    }

    // ---- promise 23

    private void gap() {
        c.test(23, "what 0 its least, 1 its greatest value", "the strictest of several letters", () -> {
            TaskTrace x = c.made(2, 1, 8);
            c.tell(x, SEND, -1, 0, 10, SEND, -1, 1, 20, SEND, -1, 2, 30, RECEIVE, -1, 3, 60, RECEIVE, -1, 4, 70, RECEIVE, -1, 5, 80);
            c.tellOn(x, 1, RECEIVE, -1, 0, 15, RECEIVE, -1, 1, 22, RECEIVE, -1, 2, 39, SEND, -1, 3, 50, SEND, -1, 4, 61, SEND, -1, 5, 69);
            c.due("least", x.gap(0, 1, 0), -2);
            c.due("greatest", x.gap(0, 1, 1), 9);
            c.due("least back", x.gap(1, 0, 0), -9);
            c.due("greatest back", x.gap(1, 0, 1), 2);
        });
        c.test(23, "what 0 its least, 1 its greatest value", "both the same", () -> {
            TaskTrace x = c.made(2, 1, 8);
            c.tell(x, SEND, -1, 0, 10, RECEIVE, -1, 1, 10);
            c.tellOn(x, 1, RECEIVE, -1, 0, 90, SEND, -1, 1, 90);
            c.due("least", x.gap(0, 1, 0), -80);
            c.due("greatest", x.gap(0, 1, 1), -80);
        });
        c.test(23, "what 0 its least, 1 its greatest value", "through a third processor it is stricter than the letter between them", () -> {
            TaskTrace x = c.made(3, 1, 8);
            c.tell(x, SEND, -1, 0, 10, SEND, -1, 1, 10);
            c.tellOn(x, 1, RECEIVE, -1, 0, 10, SEND, -1, 2, 10);
            c.tellOn(x, 2, RECEIVE, -1, 2, 7, RECEIVE, -1, 1, 9);
            c.due("through it", x.gap(0, 2, 0), 3);
            c.due("to it", x.gap(0, 1, 0), 0);
        });
        c.test(23, "what 0 its least, 1 its greatest value", "the letter between them is stricter than the way through a third", () -> {
            TaskTrace x = c.made(3, 1, 8);
            c.tell(x, SEND, -1, 0, 10, SEND, -1, 1, 10);
            c.tellOn(x, 1, RECEIVE, -1, 0, 10, SEND, -1, 2, 10);
            c.tellOn(x, 2, RECEIVE, -1, 1, 5, RECEIVE, -1, 2, 7);
            c.due("straight", x.gap(0, 2, 0), 5);
        });
        c.test(23, "what 0 its least, 1 its greatest value", "through each processor between each two others", () -> {
            for (int p = 0; p < 3; p++) {
                for (int q = 0; q < 3; q++) {
                    if (p != q) {
                        gapThrough(p, 3 - p - q, q);
                    }
                }
            }
        });
        c.test(23, "the GAP OFF(q) - OFF(p)", "of a processor with itself it is 0, also without marks", () -> {
            TaskTrace x = c.made(3, 1, 8);
            for (int p = 0; p < 3; p++) {
                c.due("least", x.gap(p, p, 0), 0);
                c.due("greatest", x.gap(p, p, 1), 0);
            }
        });
        c.test(23, "the GAP OFF(q) - OFF(p)", "as far as 16 bits and 200 marks go", () -> {
            TaskTrace x = c.made(2, 1, 16);
            for (int i = 0; i < 199; i++) {
                c.due("mark", x.mark(0, LOST, -1, -1, -i & 65535), i);
            }
            c.tell(x, SEND, -1, 0, -199 & 65535);
            c.tellOn(x, 1, RECEIVE, -1, 0, 0);
            c.due("least", x.gap(0, 1, 0), 199 * 65535);
            c.due("greatest back", x.gap(1, 0, 1), -199 * 65535);
        });
    }

    /** A letter of 7 at least from p to the third, and one of -2 at least from there to q, make 5 at least. */
    private void gapThrough(int p, int third, int q) {
        TaskTrace x = c.made(3, 1, 8);
        c.tellOn(x, p, SEND, -1, 0, 50);
        c.tellOn(x, third, RECEIVE, -1, 0, 43, SEND, -1, 1, 60);
        c.tellOn(x, q, RECEIVE, -1, 1, 62);
        c.due("least from " + p + " to " + q, x.gap(p, q, 0), 5);
        c.due("greatest from " + q + " to " + p, x.gap(q, p, 1), -5);
        c.state("no greatest from " + p + " to " + q, () -> x.gap(p, q, 1));
        c.state("no least from " + q + " to " + p, () -> x.gap(q, p, 0));
        c.state("no least from " + third + " to " + p, () -> x.gap(third, p, 0));
        c.state("no least from " + q + " to " + third, () -> x.gap(q, third, 0));
    }

    private void gapRefused() {
        c.test(23, "IllegalArgumentException: no such processor, what", "p or q below 0 or from P on", () -> {
            TaskTrace x = c.made(2, 1, 8);
            for (int wrong : new int[] {-1, MIN, 2, 3, MAX}) {
                c.argument("p " + wrong, () -> x.gap(wrong, 0, 0));
                c.argument("q " + wrong, () -> x.gap(0, wrong, 0));
            }
        });
        c.test(23, "IllegalArgumentException: no such processor, what", "what below 0 or above 1", () -> {
            TaskTrace x = c.made(2, 1, 8);
            for (int what : new int[] {-1, MIN, 2, MAX}) {
                c.argument("what " + what, () -> x.gap(0, 0, what));
            }
        });
        c.test(23, "or there is no such value", "no letters at all", () -> {
            TaskTrace x = c.made(2, 1, 8);
            c.state("least", () -> x.gap(0, 1, 0));
            c.state("greatest", () -> x.gap(0, 1, 1));
        });
        c.test(23, "or there is no such value", "letters one way give a least or a greatest alone", () -> {
            TaskTrace x = c.made(2, 1, 8);
            c.tell(x, SEND, -1, 0, 10);
            c.tellOn(x, 1, RECEIVE, -1, 0, 10);
            c.due("least", x.gap(0, 1, 0), 0);
            c.state("greatest", () -> x.gap(0, 1, 1));
            c.state("least back", () -> x.gap(1, 0, 0));
            c.due("greatest back", x.gap(1, 0, 1), 0);
        });
        c.test(23, "or there is no such value", "two letters from one processor say nothing of the other two", () -> {
            TaskTrace x = c.made(3, 1, 8);
            c.tell(x, SEND, -1, 0, 10, SEND, -1, 1, 10);
            c.tellOn(x, 1, RECEIVE, -1, 0, 10);
            c.tellOn(x, 2, RECEIVE, -1, 1, 10);
            c.state("least", () -> x.gap(1, 2, 0));
            c.state("greatest", () -> x.gap(1, 2, 1));
        });
        c.test(23, "or there is no such value", "a third processor without letters has none with the other two", () -> {
            TaskTrace x = c.made(3, 1, 8);
            c.tell(x, SEND, -1, 0, 100, RECEIVE, -1, 1, 110);
            c.tellOn(x, 1, RECEIVE, -1, 0, 40, SEND, -1, 1, 45);
            c.due("least", x.gap(0, 1, 0), 60);
            c.due("greatest", x.gap(0, 1, 1), 65);
            for (int p = 0; p < 2; p++) {
                for (int what = 0; what < 2; what++) {
                    int with = p;
                    int asked = what;
                    c.state("to it", () -> x.gap(with, 2, asked));
                    c.state("from it", () -> x.gap(2, with, asked));
                }
            }
        });
        c.test(23, "IllegalStateException: the OFFS don't AGREE", "also for processors that the quarrel isn't between", () -> {
            TaskTrace x = c.made(3, 1, 8);
            c.tell(x, SEND, -1, 0, 10);
            c.tellOn(x, 1, RECEIVE, -1, 0, 10);
            c.tellOn(x, 2, RECEIVE, -1, 1, 10, SEND, -1, 1, 11);
            c.state("0 to 1", () -> x.gap(0, 1, 0));
            c.state("0 to 0", () -> x.gap(0, 0, 0));
        });
        c.test(23, "Of several refusals the one that is named first in a method's words is answered", "IllegalArgumentException ahead of IllegalStateException", () -> {
            TaskTrace x = c.made(2, 1, 8);
            c.tell(x, RECEIVE, -1, 1, 10, SEND, -1, 1, 11);
            c.argument("processor", () -> x.gap(0, 2, 0));
            c.argument("what", () -> x.gap(0, 1, 2));
        });
    }

    // ---- promise 24

    private void answer() {
        c.test(24, "on one processor the difference", "without any letter, over a wrap, and below 0", () -> {
            TaskTrace x = c.made(1, 1, 4);
            c.tell(x, START, -1, 63, 9, ANSWER, -1, 63, 8, ANSWER, -1, 0, 9, START, -1, 0, 12);
            c.due("least", x.answer(63, 0), 15);
            c.due("greatest", x.answer(63, 1), 15);
            c.due("answered ahead of its start", x.answer(0, 0), -3);
        });
        c.test(24, "on one processor the difference", "though the OFFS don't AGREE", () -> {
            TaskTrace x = c.made(1, 1, 8);
            c.tell(x, START, -1, 5, 9, RECEIVE, -1, 1, 10, SEND, -1, 1, 11, ANSWER, -1, 5, 20);
            c.due("agree", x.agree(), 0);
            c.due("answer", x.answer(5, 0), 11);
        });
        c.test(24, "the TIMES' difference and the GAP's least (greatest) value", "from START's processor to ANSWER's", () -> {
            TaskTrace x = c.made(2, 1, 8);
            c.tell(x, SEND, -1, 0, 10, RECEIVE, -1, 1, 40, START, -1, 7, 50, ANSWER, -1, 8, 55);
            c.tellOn(x, 1, RECEIVE, -1, 0, 15, SEND, -1, 1, 38, START, -1, 8, 60, ANSWER, -1, 7, 70);
            // GAP from 0 to 1: -5 to 2
            c.due("least there", x.answer(7, 0), 15);
            c.due("greatest there", x.answer(7, 1), 22);
            c.due("least back", x.answer(8, 0), -7);
            c.due("greatest back", x.answer(8, 1), 0);
        });
    }

    private void answerRefused() {
        c.test(24, "IllegalArgumentException: no such x (0 .. 63), what", "x below 0 or above 63", () -> {
            TaskTrace x = c.made(1, 1, 8);
            for (int wrong : new int[] {-1, MIN, 64, MAX}) {
                c.argument("x " + wrong, () -> x.answer(wrong, 0));
            }
        });
        c.test(24, "IllegalArgumentException: no such x (0 .. 63), what", "what below 0 or above 1", () -> {
            TaskTrace x = c.made(1, 1, 8);
            c.tell(x, START, -1, 0, 0, ANSWER, -1, 0, 0);
            for (int what : new int[] {-1, MIN, 2, MAX}) {
                c.argument("what " + what, () -> x.answer(0, what));
            }
        });
        c.test(24, "IllegalStateException: its START or ANSWER isn't told", "neither, or one of them", () -> {
            TaskTrace x = c.made(1, 1, 8);
            c.tell(x, START, -1, 0, 0, ANSWER, -1, 63, 0);
            c.state("START alone", () -> x.answer(0, 0));
            c.state("ANSWER alone", () -> x.answer(63, 0));
            c.state("neither", () -> x.answer(62, 1));
        });
        c.test(24, "or (on two processors) as gap()", "there is no such value", () -> {
            TaskTrace x = c.made(2, 1, 8);
            c.tell(x, START, -1, 0, 0, SEND, -1, 0, 5);
            c.tellOn(x, 1, ANSWER, -1, 0, 0);
            c.state("without letters", () -> x.answer(0, 0));
            c.tellOn(x, 1, RECEIVE, -1, 0, 6);
            c.due("least", x.answer(0, 0), -1);
            c.state("no greatest", () -> x.answer(0, 1));
        });
        c.test(24, "or (on two processors) as gap()", "the OFFS don't AGREE", () -> {
            TaskTrace x = c.made(2, 1, 8);
            c.tell(x, START, -1, 0, 0, SEND, -1, 0, 5);
            c.tellOn(x, 1, ANSWER, -1, 0, 0, RECEIVE, -1, 0, 6, RECEIVE, -1, 1, 6, SEND, -1, 1, 7);
            c.state("least", () -> x.answer(0, 0));
        });
        c.test(24, "Of several refusals the one that is named first in a method's words is answered", "IllegalArgumentException ahead of IllegalStateException", () -> {
            TaskTrace x = c.made(1, 1, 8);
            c.argument("x", () -> x.answer(64, 0));
            c.argument("what", () -> x.answer(0, 2));
        });
    }
}
