import java.lang.reflect.InvocationTargetException;
import java.lang.reflect.Method;
import java.lang.reflect.Modifier;
import java.util.ArrayList;
import java.util.Comparator;
import java.util.List;
import java.util.Random;

/** Runs of calls drawn from fixed seeds: TaskTrace answers each as NaiveTrace does. */
public final class OracleTests {
    private static final int CALLS = 500;
    private static final int[] EDGES = {Integer.MIN_VALUE, -15, -5, -2, -1, 16, 63, 64, 100, 101, 200, 65535, 65536, Integer.MAX_VALUE};

    private final Random random;
    private final TaskTrace x = new TaskTrace();
    private final NaiveTrace naive = new NaiveTrace();
    private final List<Method> queries;
    private final List<String> log = new ArrayList<>();
    private final int wildness;
    private final boolean lettersAgree;
    private final boolean fullOfLocks;
    private final int kindsOfClocks;
    private final int[] trueOffs = new int[3];
    private String fault = null;

    private OracleTests(long seed, List<Method> queries) {
        random = new Random(seed);
        this.queries = queries;
        wildness = random.nextInt(10) == 0 ? 30 : 3;
        lettersAgree = random.nextInt(4) != 0;
        fullOfLocks = random.nextInt(3) == 0;
        kindsOfClocks = random.nextInt(6) == 0 ? 13 : 3;
        for (int p = 0; p < 3; p++) {
            trueOffs[p] = random.nextInt(60);
        }
    }

    public static void main(String[] args) {
        List<Method> queries = new ArrayList<>();
        for (Method m : TaskTrace.class.getDeclaredMethods()) {
            if (Modifier.isPublic(m.getModifiers())) {
                queries.add(m);
            }
        }
        queries.sort(Comparator.comparing(Method::getName));
        int runs = args.length > 0 ? Integer.parseInt(args[0]) : 400;
        int wrong = 0;
        for (int seed = 0; seed < runs && wrong < 5; seed++) {
            OracleTests run = new OracleTests(seed, queries);
            run.go();
            if (run.fault != null) {
                wrong++;
                System.out.println("seed " + seed + ": " + run.fault + "\n  " + String.join("\n  ", run.log));
            }
        }
        System.out.println(runs + " runs, " + wrong + " not as due");
        if (wrong != 0) {
            System.exit(1);
        }
    }

    private void go() {
        try {
            if (random.nextInt(20) != 0) {
                call("begin", 1 + random.nextInt(fullOfLocks ? 2 : 3), drawTasks(), 4 + random.nextInt(kindsOfClocks));
                settle();
            }
            int marks = random.nextInt(4) == 0 ? 230 : 20 + random.nextInt(100);
            while (fault == null && log.size() < CALLS) {
                if (log.size() < marks || random.nextInt(6) == 0) {
                    tellMark();
                } else {
                    drawn(queries.get(random.nextInt(queries.size())));
                }
                if (log.size() == marks / 2) {
                    call("keep", random.nextInt(6));
                }
            }
        } catch (ReflectiveOperationException e) {
            fault = e.toString();
        }
    }

    private int drawTasks() {
        return fullOfLocks ? 4 + random.nextInt(5) : 1 + random.nextInt(random.nextBoolean() ? 3 : 8);
    }

    private void settle() throws ReflectiveOperationException {
        for (int t = 0; t < naive.w.T; t++) {
            call("home", t, random.nextInt(naive.w.P));
            call("home", t, random.nextInt(naive.w.P));
            call("rank", t, random.nextInt(4));
        }
        for (int i = random.nextInt(8); i > 0; i--) {
            drawn(method("law"));
        }
    }

    /** Mostly a mark that is taken, drawn from all that would be; long chains of letters are kept rare. */
    private void tellMark() throws ReflectiveOperationException {
        int p = random.nextInt(naive.w.P);
        int clock = nextClock(p);
        List<int[]> taken = new ArrayList<>();
        for (int kind = 0; kind <= 12; kind++) {
            for (int task = -1; task < naive.w.T; task++) {
                for (int number = -1; number < (kind < 9 ? 4 : 5); number++) {
                    int seen = kind >= 9 && number >= 0 ? random.nextInt(12) : number;
                    if (naive.judge(p, kind, task, seen, clock) >= 0) {
                        taken.add(new int[] {kind, task, seen});
                    }
                }
            }
        }
        taken.removeIf(m -> lettersAgree && !agrees(p, m[0], m[2], clock));
        taken.removeIf(m -> (m[0] == 8 && random.nextInt(8) != 0) || (m[0] >= 6 && m[0] != 8 && random.nextInt(3) != 0));
        if (fullOfLocks) {
            // else few locks are wanted, and those that are end in a ring that nothing leads out of
            taken.removeIf(m -> (m[0] == 2 && random.nextBoolean()) || (m[0] >= 5 && random.nextInt(4) != 0));
            taken.removeIf(m -> m[0] == 3 && naive.closesRing(p, m[1], m[2]) && random.nextInt(60) != 0);
        }
        if (taken.isEmpty() || random.nextInt(25) == 0) {
            drawn(method("mark"));
            return;
        }
        int[] m = taken.get(random.nextInt(taken.size()));
        call("mark", p, m[0], m[1], m[2], clock);
    }

    /** Whether a letter keeps to the true offs of the run; its other end may be told or not. */
    private boolean agrees(int p, int kind, int number, int clock) {
        if (kind != 9 && kind != 10) {
            return true;
        }
        int mine = timeAt(p, clock) + trueOffs[p];
        for (int q = 0; q < 3; q++) {
            for (NaiveTrace.Mark m : naive.w.marks.get(q)) {
                int theirs = m.time() + trueOffs[q];
                if (m.x() == number && m.kind() == 19 - kind && (kind == 9 ? mine > theirs : theirs > mine)) {
                    return false;
                }
            }
        }
        return true;
    }

    private int timeAt(int p, int clock) {
        List<NaiveTrace.Mark> marks = naive.w.marks.get(p);
        if (marks.isEmpty()) {
            return clock;
        }
        int before = marks.get(marks.size() - 1).time();
        return before + Math.floorMod(clock - before, 1 << naive.w.W);
    }

    private int nextClock(int p) {
        List<NaiveTrace.Mark> marks = naive.w.marks.get(p);
        int size = 1 << naive.w.W;
        int step = random.nextInt(6) == 0 ? random.nextInt(size) : random.nextInt(4);
        return marks.isEmpty() ? random.nextInt(size) : (marks.get(marks.size() - 1).time() + step) % size;
    }

    private Method method(String name) {
        return queries.stream().filter(m -> m.getName().equals(name)).findFirst().orElseThrow();
    }

    private void drawn(Method m) throws ReflectiveOperationException {
        boolean ends = m.getName().equals("begin") || m.getName().equals("back");
        if (ends && random.nextInt(8) != 0) {
            return;
        }
        if (m.getName().equals("mark") && random.nextInt(3) == 0) {
            int p = random.nextInt(naive.w.P);
            call("mark", p, 9 + random.nextInt(4), -1, random.nextInt(12), nextClock(p));
            return;
        }
        if (m.getName().equals("play") && random.nextBoolean()) {
            layPlay();
            return;
        }
        Class<?>[] types = m.getParameterTypes();
        Object[] args = new Object[types.length];
        for (int i = 0; i < args.length; i++) {
            int v = number(m.getName(), i);
            if (types[i] == long.class) {
                args[i] = random.nextBoolean() ? (long) v : random.nextLong();
            } else {
                args[i] = v;
            }
        }
        compare(m, args);
    }

    /** A row of ints with marks in it, and its play. */
    private void layPlay() throws ReflectiveOperationException {
        int d = random.nextInt(6);
        int n = 1 + random.nextInt(3);
        int p = random.nextInt(naive.w.P);
        call("tape", d, 3, 5 * n - random.nextInt(3));
        for (int i = 0; i < n; i++) {
            int kind = 6 + random.nextInt(7);
            call("put", d, 5 * i, kind);
            call("put", d, 5 * i + 1, -1);
            call("put", d, 5 * i + 2, kind < 9 ? -1 : random.nextInt(64));
            call("put", d, 5 * i + 3, nextClock(p));
        }
        call("play", d, 0, n + random.nextInt(2), p);
    }

    private int number(String name, int i) {
        if (random.nextInt(100) < wildness) {
            return EDGES[random.nextInt(EDGES.length)];
        }
        String place = name + i;
        if (isTask(place) && random.nextInt(10) != 0) {
            return random.nextInt(naive.w.T);
        }
        if (isProcessor(place) && random.nextInt(10) != 0) {
            return random.nextInt(naive.w.P);
        }
        switch (place) {
            case "breaks0": case "broken0":
                return random.nextInt(1 + Math.max(0, naive.count(4)));
            case "breaks1": case "broken1": case "gap2": case "answer1": case "period1":
                return random.nextInt(2);
            case "late1": case "law3":
                return name.equals("law") && random.nextInt(3) == 0 ? 0 : random.nextInt(20);
            case "law0":
                return random.nextInt(4);
            case "law2":
                return random.nextInt(3) != 0 ? 0 : random.nextInt(4);
            case "sum1": case "differ2":
                return random.nextInt(7);
            case "busy1": case "job2": case "wait1":
                return random.nextInt(6);
            case "held1":
                return random.nextInt(8);
            case "begin2":
                return 4 + random.nextInt(kindsOfClocks);
            case "told1":
                return random.nextInt(1 + naive.w.size());
            case "count0":
                return random.nextInt(14);
            case "answer0":
                return random.nextInt(12);
            case "tape2":
                return random.nextInt(12);
            case "mark4":
                return random.nextInt(1 << naive.w.W);
            default:
                return random.nextInt(random.nextBoolean() ? 3 : 8);
        }
    }

    private static boolean isTask(String place) {
        return List.of("home0", "rank0", "other0", "state0", "sum0", "wait0", "held0", "chain0", "jobs0", "job0", "worst0",
                "late0", "again0", "slowest0", "period0", "differ1").contains(place);
    }

    private static boolean isProcessor(String place) {
        return List.of("home1", "mark0", "told0", "holder0", "busy0", "gap0", "gap1", "play3").contains(place);
    }

    private void call(String name, int... numbers) throws ReflectiveOperationException {
        Method m = method(name);
        Object[] args = new Object[numbers.length];
        for (int i = 0; i < numbers.length; i++) {
            args[i] = m.getParameterTypes()[i] == long.class ? (Object) (long) numbers[i] : (Object) numbers[i];
        }
        compare(m, args);
    }

    private void compare(Method m, Object[] args) throws ReflectiveOperationException {
        if (fault != null) {
            return;
        }
        String got = outcome(m, x, args);
        String due = outcome(NaiveTrace.class.getMethod(m.getName(), m.getParameterTypes()), naive, args);
        List<String> texts = new ArrayList<>();
        for (Object a : args) {
            texts.add(a.toString());
        }
        log.add(m.getName() + "(" + String.join(", ", texts) + ") = " + got);
        if (!got.equals(due)) {
            fault = "the last answer is not as due: " + due;
        }
    }

    private static String outcome(Method m, Object on, Object[] args) throws ReflectiveOperationException {
        try {
            return m.invoke(on, args).toString();
        } catch (InvocationTargetException e) {
            return e.getCause().getClass().getSimpleName();
        }
    }
}
