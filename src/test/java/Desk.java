import java.util.Set;
import java.util.TreeSet;

/** Tests of one sentence each: what is not as due is told with its promise, the sentence and the edge. */
final class Desk {
    static final int READY = 0, RUN = 1, BLOCK = 2, WANT = 3, LOCK = 4, FREE = 5, IN = 6, OUT = 7, LOST = 8;
    static final int SEND = 9, RECEIVE = 10, START = 11, ANSWER = 12;
    static final int NONE = -1, STARTED = -2, BAD = -3, FULL = -4, TWICE = -5;
    static final int NOTHING = -11, CAST = -12, PLACE = -13, SIZE = -14, THROWN = -15;
    static final int MIN = Integer.MIN_VALUE, MAX = Integer.MAX_VALUE;

    private final String document;
    private final Set<Integer> promises = new TreeSet<>();
    private final Set<String> names = new TreeSet<>();
    private String test = "";
    private int tests = 0;
    private int checks = 0;
    private int wrong = 0;

    Desk(String document) {
        this.document = document;
    }

    /** The sentence is quoted from the document, so that a test can't outlive its words. */
    void test(int promise, String sentence, String edge, Runnable body) {
        test = "promise " + promise + ": \"" + sentence + "\": " + edge;
        tests++;
        promises.add(promise);
        holds("these words stand in the document", document.contains(sentence));
        holds("the test has a name of its own", names.add(test));
        int before = checks;
        try {
            body.run();
        } catch (RuntimeException e) {
            fail("a call threw " + e);
        }
        if (checks == before) {
            fail("nothing was checked");
        }
    }

    private void fail(String how) {
        wrong++;
        System.out.println(test + ": " + how);
    }

    void due(String call, long got, long want) {
        checks++;
        if (got != want) {
            fail(call + " answered " + got + ", due is " + want);
        }
    }

    void holds(String what, boolean so) {
        checks++;
        if (!so) {
            fail("it isn't so that " + what);
        }
    }

    void argument(String call, Checks.Call code) {
        throwing(call, code, Checks.ARGUMENT);
    }

    void state(String call, Checks.Call code) {
        throwing(call, code, Checks.STATE);
    }

    private void throwing(String call, Checks.Call code, String want) {
        checks++;
        String got = outcome(code);
        if (!got.equals(want)) {
            fail(call + " gave " + got + ", due is " + want);
        }
    }

    /** What a call answers, as a text, or the name of what it throws. */
    static String outcome(Checks.Call code) {
        try {
            return Long.toString(code.answer());
        } catch (RuntimeException e) {
            return e.getClass().getSimpleName();
        }
    }

    TaskTrace made(int processors, int tasks, int bits) {
        TaskTrace x = new TaskTrace();
        due("begin", x.begin(processors, tasks, bits), processors);
        return x;
    }

    /** Tells marks of processor 0, each as kind, task, x, clock; all are due to be taken. */
    void tell(TaskTrace x, int... marks) {
        tellOn(x, 0, marks);
    }

    void tellOn(TaskTrace x, int processor, int... marks) {
        int number = x.count(10 + processor);
        for (int i = 0; i < marks.length; i += 4) {
            int got = x.mark(processor, marks[i], marks[i + 1], marks[i + 2], marks[i + 3]);
            due("mark of kind " + marks[i] + " at " + marks[i + 3], got, number++);
        }
    }

    /** A mark that is due to be refused, of processor 0. */
    void refused(TaskTrace x, int refusal, int kind, int task, int number, int clock) {
        due("mark(0, " + kind + ", " + task + ", " + number + ", " + clock + ")", x.mark(0, kind, task, number, clock), refusal);
    }

    /** Tells letters of a processor, all at one clock: every x of the first kind, then of the next. */
    void tellLetters(TaskTrace x, int processor, int many, int clock) {
        int number = x.count(10 + processor);
        for (int i = 0; i < many; i++) {
            due("letter " + i, x.mark(processor, SEND + i / 64, -1, i % 64, clock), number++);
        }
    }

    void end() {
        for (int p = 1; document.contains("## Promise " + p + ":"); p++) {
            test = "all promises";
            holds("promise " + p + " has a test", promises.contains(p));
        }
        System.out.println(tests + " tests of sentences, " + checks + " checks, " + wrong + " not as due");
        if (wrong != 0) {
            System.exit(1);
        }
    }
}
