import java.util.Arrays;

/** A reader of traces of tasks; each call answers what the document's promise of its name says. */
public final class TaskTrace {
    public static final int NONE = -1, STARTED = -2, BAD = -3, FULL = -4, TWICE = -5, QUARREL = -6, OPEN = -7;
    public static final int NOTHING = -11, CAST = -12, PLACE = -13, SIZE = -14, THROWN = -15;

    private static final int MAX_PROCESSORS = 3, MAX_TASKS = 8, MAX_LOCKS = 4, MAX_MARKS = 200;
    private static final int MAX_LAWS = 8, MAX_TAPES = 6, MAX_ROW = 100, MAX_RANK = 15, MAX_PLAYED = 20;
    private static final int LEAST_BITS = 4, MOST_BITS = 16, LETTERS = 64;
    /** A job has a READY, a RUN and a BLOCK of its own, so a third of the marks is enough. */
    private static final int MAX_JOBS = MAX_MARKS / 3 + 1;

    private static final int MARK_READY = 0, MARK_RUN = 1, MARK_BLOCK = 2, MARK_WANT = 3, MARK_LOCK = 4;
    private static final int MARK_FREE = 5, MARK_IN = 6, MARK_OUT = 7, MARK_LOST = 8;
    private static final int MARK_SEND = 9, MARK_RECEIVE = 10, MARK_START = 11, MARK_ANSWER = 12;

    private static final int IDLE = 0, READY = 1, RUNNING = 2, WANTING = 3, UNKNOWN = 4, WHOLE = 5;
    private static final int DOES_NOTHING = 0, IS_IN = 1, HAS_TASK = 2, IS_DARK = 3;
    private static final int NOBODY = -2, NOBODY_KNOWS = -3;
    private static final int ENDLESS_CHAIN = 9;

    private static final int LAW_BLOCK = 0, LAW_LOCK = 1, LAW_APART = 2, LAW_IDLE = 3;
    private static final int SORT_BYTE = 1, SORT_SHORT = 2, SORT_INT = 3, SORT_LONG = 4, SORT_COPY = 5;
    private static final int MARK_WIDTH = 5, MARK_NUMBERS = 4;
    private static final int FINE = 0;
    /** Behind all times: 200 stretches of 16 bits, and as much again for what is left to run. */
    private static final int FAR = 1 << 30;
    private static final long UNBOUND = -(1L << 60);

    private final Trace trace = new Trace();
    private final int[] toldRanks = new int[MAX_TASKS];
    private final int[] otherRanks = new int[MAX_TASKS];
    private final LawBook laws = new LawBook();
    private final Tape[] tapes = new Tape[MAX_TAPES];
    private final Walk walk = new Walk();
    private final JobRows jobRows = new JobRows();
    private final Breaks found = new Breaks();
    private final Offs offs = new Offs();
    private int refusedMarks = 0;
    private int hostRefusals = 0;

    public TaskTrace() {
        Arrays.fill(toldRanks, NONE);
        for (int d = 0; d < MAX_TAPES; d++) {
            tapes[d] = new Tape();
        }
    }

    // ---- the trace is told

    public int begin(int processors, int tasks, int bits) {
        if (processors < 1 || processors > MAX_PROCESSORS || tasks < 1 || tasks > MAX_TASKS
                || bits < LEAST_BITS || bits > MOST_BITS) {
            return NONE;
        }
        trace.restart(processors, tasks, bits);
        forgetLawsAndOthers();
        refusedMarks = 0;
        hostRefusals = 0;
        return processors;
    }

    public int home(int task, int processor) {
        if (!trace.hasTask(task) || !trace.hasProcessor(processor)) {
            return NONE;
        }
        if (trace.allMarks() > 0) {
            return STARTED;
        }
        int before = trace.homeOf(task);
        trace.homes[task] = processor;
        return before;
    }

    public int rank(int task, int rank) {
        if (!trace.hasTask(task) || !isRank(rank)) {
            return NONE;
        }
        int before = trace.rankOf(task);
        trace.ranks[task] = rank;
        return before;
    }

    public int other(int task, int rank) {
        if (!trace.hasTask(task) || !isRank(rank)) {
            return NONE;
        }
        int before = otherRankOf(task);
        toldRanks[task] = rank;
        return before;
    }

    public int mark(int processor, int kind, int task, int x, int clock) {
        return tellMark(processor, kind, task, x, clock);
    }

    private int tellMark(int processor, int kind, int task, int x, int clock) {
        int fault = trace.faultOf(processor, kind, task, x, clock);
        if (fault != FINE) {
            refusedMarks++;
            return fault;
        }
        return trace.addMark(processor, kind, task, x, clock);
    }

    private void forgetLawsAndOthers() {
        laws.size = 0;
        Arrays.fill(toldRanks, NONE);
    }

    private static boolean isRank(int rank) {
        return rank >= 0 && rank <= MAX_RANK;
    }

    private int otherRankOf(int task) {
        if (task < 0 || task >= MAX_TASKS) {
            return 0;
        }
        return toldRanks[task] != NONE ? toldRanks[task] : trace.rankOf(task);
    }

    // ---- what each task did when

    public int told(int processor, int i, int what) {
        if (!trace.hasProcessor(processor)) {
            return NONE;
        }
        Lane lane = trace.laneOf(processor);
        if (!lane.has(i)) {
            return NONE;
        }
        switch (what) {
            case 0:
                return lane.kindOf(i);
            case 1:
                return lane.taskOf(i);
            case 2:
                return lane.numberOf(i);
            case 3:
                return lane.timeOf(i);
            default:
                return NONE;
        }
    }

    public int state(int task) {
        return trace.hasTask(task) ? trace.homeLane(task).last.stateOf(task) : NONE;
    }

    public int holder(int processor, int lock) {
        if (!trace.hasProcessor(processor) || lock < 0 || lock >= MAX_LOCKS) {
            return NONE;
        }
        return trace.laneOf(processor).last.holderOf(lock);
    }

    public int sum(int task, int what) {
        if (!trace.hasTask(task) || !isSumWhat(what)) {
            return NONE;
        }
        return timeCountedAs(trace, task, what);
    }

    public int busy(int processor, int what) {
        if (!trace.hasProcessor(processor) || what < DOES_NOTHING || what > IS_DARK) {
            return NONE;
        }
        Lane lane = trace.laneOf(processor);
        int total = 0;
        walk.start();
        for (int i = 0; i + 1 < lane.size; i++) {
            walk.step(lane, i);
            if (walk.doing() == what) {
                total += walk.length;
            }
        }
        return total;
    }

    public int wait(int task, int what) {
        if (!trace.hasTask(task) || what < 0 || what > 4) {
            return NONE;
        }
        Lane lane = trace.homeLane(task);
        int total = 0;
        walk.start();
        for (int i = 0; i + 1 < lane.size; i++) {
            walk.step(lane, i);
            if (walk.countsAs(task) == READY && walk.readyBy(task, trace) == what) {
                total += walk.length;
            }
        }
        return total;
    }

    public int held(int task, int what) {
        if (!trace.hasTask(task) || what < 0 || what > 6) {
            return NONE;
        }
        Lane lane = trace.homeLane(task);
        int total = 0;
        walk.start();
        for (int i = 0; i + 1 < lane.size; i++) {
            walk.step(lane, i);
            if (walk.countsAs(task) == WANTING && walk.wantingBy(task, trace) == what) {
                total += walk.length;
            }
        }
        return total;
    }

    public int chain(int task) {
        if (!trace.hasTask(task)) {
            return NONE;
        }
        Lane lane = trace.homeLane(task);
        int greatest = 0;
        walk.start();
        for (int i = 0; i + 1 < lane.size; i++) {
            walk.step(lane, i);
            if (walk.countsAs(task) == WANTING) {
                greatest = Math.max(greatest, walk.now.chainOf(task));
            }
        }
        return greatest;
    }

    private static boolean isSumWhat(int what) {
        return what >= IDLE && what <= WHOLE;
    }

    private int timeCountedAs(Trace of, int task, int what) {
        Lane lane = of.homeLane(task);
        if (what == WHOLE) {
            return lane.wholeLength();
        }
        int total = 0;
        walk.start();
        for (int i = 0; i + 1 < lane.size; i++) {
            walk.step(lane, i);
            if (walk.countsAs(task) == what) {
                total += walk.length;
            }
        }
        return total;
    }

    // ---- jobs

    public int jobs(int task) {
        if (!trace.hasTask(task)) {
            return NONE;
        }
        gatherJobs(task);
        return jobRows.manyOf(task);
    }

    public int job(int task, int i, int what) {
        int row = jobRow(task, i);
        if (row == NONE) {
            return NONE;
        }
        switch (what) {
            case 0:
                return jobRows.readies[row];
            case 1:
                return jobRows.blocks[row];
            case 2:
                return jobRows.responseOf(row);
            case 3:
                return jobRows.demands[row];
            case 4:
                return jobRows.wantings[row];
            default:
                return NONE;
        }
    }

    public int worst(int task) {
        if (!trace.hasTask(task)) {
            return NONE;
        }
        gatherJobs(task);
        int worstJob = NONE;
        int greatest = NONE;
        int number = 0;
        for (int row = 0; row < jobRows.size; row++) {
            if (jobRows.isOf(row, task)) {
                if (jobRows.responseOf(row) > greatest) {
                    greatest = jobRows.responseOf(row);
                    worstJob = number;
                }
                number++;
            }
        }
        return worstJob;
    }

    public int late(int task, int d) {
        if (!trace.hasTask(task) || d < 0) {
            return NONE;
        }
        gatherJobs(task);
        int many = 0;
        for (int row = 0; row < jobRows.size; row++) {
            if (jobRows.isOf(row, task) && jobRows.responseOf(row) > d) {
                many++;
            }
        }
        return many;
    }

    private void gatherJobs(int task) {
        jobRows.gather(trace.homeLane(task), walk);
    }

    /** The row of a task's i-th job, with the rows gathered anew; NONE if there is no such job. */
    private int jobRow(int task, int i) {
        if (!trace.hasTask(task) || i < 0) {
            return NONE;
        }
        gatherJobs(task);
        return jobRows.rowOf(task, i);
    }

    // ---- laws

    public int law(int kind, int a, int b, int d) {
        if (!isLaw(kind, a, b, d)) {
            return NONE;
        }
        if (laws.size >= MAX_LAWS) {
            return FULL;
        }
        return laws.add(kind, a, b, d);
    }

    public int breaks(int law, int what) {
        if (!laws.has(law) || what < 0 || what > 1) {
            return NONE;
        }
        findBreaks(law);
        return what == 0 ? found.sureSize : found.maybeSize;
    }

    public int broken(int law, int what, int i) {
        if (!laws.has(law) || what < 0 || what > 1) {
            return NONE;
        }
        findBreaks(law);
        return what == 0 ? found.sureAt(i) : found.maybeAt(i);
    }

    private boolean isLaw(int kind, int a, int b, int d) {
        if (d < 0) {
            return false;
        }
        switch (kind) {
            case LAW_BLOCK:
            case LAW_APART:
                return trace.hasTask(a) && b == 0;
            case LAW_LOCK:
                return trace.hasProcessor(a) && b >= 0 && b < MAX_LOCKS;
            case LAW_IDLE:
                return trace.hasProcessor(a) && b == 0 && d == 0;
            default:
                return false;
        }
    }

    private void findBreaks(int law) {
        found.forget();
        if (!laws.has(law)) {
            return;
        }
        int a = laws.subjects[law];
        int d = laws.limits[law];
        switch (laws.kinds[law]) {
            case LAW_BLOCK:
                found.judgeBlocks(trace.homeLane(a), a, d);
                break;
            case LAW_LOCK:
                found.judgeLocks(trace.laneOf(a), laws.locks[law], d);
                break;
            case LAW_APART:
                found.judgeApart(trace.homeLane(a), a, d);
                break;
            default:
                found.judgeIdle(trace.laneOf(a), walk);
                break;
        }
    }

    // ---- clocks joined

    public int agree() {
        offs.join(trace);
        return offs.agrees() ? 1 : 0;
    }

    public int gap(int p, int q, int what) throws IllegalArgumentException, IllegalStateException {
        if (!trace.hasProcessor(p) || !trace.hasProcessor(q) || what < 0 || what > 1) {
            throw new IllegalArgumentException("no such processor, or what is not 0 or 1");
        }
        offs.join(trace);
        if (!offs.hasValue(p, q, what)) {
            throw new IllegalStateException("the offs don't agree, or there is no such value");
        }
        return offs.valueOf(p, q, what);
    }

    public int answer(int x, int what) throws IllegalArgumentException, IllegalStateException {
        if (x < 0 || x >= LETTERS || what < 0 || what > 1) {
            throw new IllegalArgumentException("no such x, or what is not 0 or 1");
        }
        int start = trace.letterAt(MARK_START, x);
        int end = trace.letterAt(MARK_ANSWER, x);
        if (start == NONE || end == NONE) {
            throw new IllegalStateException("its start or answer isn't told");
        }
        int difference = trace.letterTime(end) - trace.letterTime(start);
        int p = trace.letterProcessor(start);
        int q = trace.letterProcessor(end);
        if (p == q) {
            return difference;
        }
        offs.join(trace);
        if (!offs.hasValue(p, q, what)) {
            throw new IllegalStateException("the offs don't agree, or there is no such value");
        }
        return difference + offs.valueOf(p, q, what);
    }

    // ---- run again, and periods

    public int again(int task, int i) {
        int row = jobRow(task, i);
        if (row == NONE) {
            return NONE;
        }
        runAgain(task);
        return jobRows.dones[row];
    }

    public int slowest(int task) {
        if (!trace.hasTask(task)) {
            return NONE;
        }
        gatherJobs(task);
        runAgain(task);
        int greatest = NONE;
        for (int row = 0; row < jobRows.size; row++) {
            if (jobRows.isOf(row, task)) {
                greatest = Math.max(greatest, jobRows.dones[row] - jobRows.readies[row]);
            }
        }
        return greatest;
    }

    public int period(int task, int what) {
        if (!trace.hasTask(task) || what < 0 || what > 1) {
            return NONE;
        }
        gatherJobs(task);
        if (jobRows.manyOf(task) < 3) {
            return NONE;
        }
        int p = jobRows.periodOf(task);
        return what == 0 ? p : (int) jobRows.jitterOf(task, p);
    }

    private void runAgain(int task) {
        for (int t = 0; t < MAX_TASKS; t++) {
            otherRanks[t] = otherRankOf(t);
        }
        jobRows.rerun(trace.homeLane(task), otherRanks, walk);
    }

    // ---- tapes

    public int tape(int d, int sort, int n) {
        if (!isTape(d) || sort < SORT_BYTE || sort > SORT_LONG || n > MAX_ROW) {
            return NONE;
        }
        if (n < 0) {
            return refuse(SIZE);
        }
        tapes[d].layRow(sort, n);
        return n;
    }

    public int keep(int d) {
        if (!isTape(d)) {
            return NONE;
        }
        tapes[d].layCopy(trace);
        return trace.allMarks();
    }

    public int back(int d) {
        int fault = copyFault(d);
        if (fault != FINE) {
            return fault;
        }
        Trace kept = tapes[d].kept;
        if (kept == null) {
            return refuse(NOTHING);
        }
        trace.become(kept);
        forgetLawsAndOthers();
        return trace.allMarks();
    }

    public int differ(int d, int task, int what) throws IllegalArgumentException, IllegalStateException {
        if (!isTape(d) || !isSumWhat(what) || !trace.hasTask(task)) {
            throw new IllegalArgumentException("no such tape, what or task");
        }
        Trace kept = tapes[d].kept;
        if (tapes[d].sort != SORT_COPY || kept == null) {
            throw new IllegalStateException("no copy is held");
        }
        if (!kept.hasTask(task)) {
            throw new IllegalArgumentException("the copy has no such task");
        }
        return timeCountedAs(trace, task, what) - timeCountedAs(kept, task, what);
    }

    public int toss(int d) {
        int fault = copyFault(d);
        if (fault != FINE) {
            return fault;
        }
        Trace kept = tapes[d].kept;
        if (kept == null) {
            return refuse(NOTHING);
        }
        int marks = kept.allMarks();
        return marks == 0 ? refuse(THROWN) : marks;
    }

    public int play(int d, int i, int n, int processor) {
        if (!isTape(d) || !trace.hasProcessor(processor) || n < 0 || n > MAX_PLAYED) {
            return NONE;
        }
        Tape from = tapes[d];
        if (from.sort == 0) {
            return refuse(NOTHING);
        }
        if (from.sort != SORT_INT) {
            return refuse(CAST);
        }
        long place = i;
        for (int taken = 0; taken < n; taken++) {
            if (!from.hasPlaces(place, MARK_NUMBERS)) {
                return refuse(PLACE);
            }
            int first = (int) place;
            int number = tellMark(processor, from.intAt(first), from.intAt(first + 1), from.intAt(first + 2),
                    from.intAt(first + 3));
            if (number < 0) {
                return taken;
            }
            place += MARK_WIDTH;
        }
        return n;
    }

    public int clear(int d) {
        if (!isTape(d)) {
            return NONE;
        }
        int before = tapes[d].sort;
        tapes[d].sort = 0;
        return before;
    }

    public int put(int d, int i, long v) {
        if (!isTape(d)) {
            return NONE;
        }
        Tape to = tapes[d];
        if (to.sort == 0) {
            return refuse(NOTHING);
        }
        if (to.sort == SORT_COPY) {
            return refuse(CAST);
        }
        if (!to.hasPlaces(i, 1)) {
            return refuse(PLACE);
        }
        to.row[i] = to.narrow(v);
        return 1;
    }

    public long at(int d, int i) throws IllegalArgumentException, IllegalStateException {
        if (!isTape(d)) {
            throw new IllegalArgumentException("no such tape");
        }
        Tape from = tapes[d];
        if (!from.hasRow() || !from.hasPlaces(i, 1)) {
            throw new IllegalStateException("no row is held, or it has no such place");
        }
        return from.row[i];
    }

    public int copy(int d, int i, int e, int j, int n) {
        if (!isTape(d) || !isTape(e)) {
            return NONE;
        }
        Tape from = tapes[d];
        Tape to = tapes[e];
        if (from.sort == 0 || to.sort == 0) {
            return refuse(NOTHING);
        }
        if (!from.hasRow() || from.sort != to.sort) {
            return refuse(CAST);
        }
        if (!from.hasPlaces(i, n) || !to.hasPlaces(j, n)) {
            return refuse(PLACE);
        }
        System.arraycopy(from.row, i, to.row, j, n);
        return n;
    }

    public int count(int what) {
        switch (what) {
            case 0:
                return trace.processors;
            case 1:
                return trace.tasks;
            case 2:
                return trace.bits;
            case 3:
                return trace.allMarks();
            case 4:
                return laws.size;
            case 5:
                return refusedMarks;
            case 6:
                return hostRefusals;
            default:
                return what >= 10 && trace.hasProcessor(what - 10) ? trace.laneOf(what - 10).size : NONE;
        }
    }

    private static boolean isTape(int d) {
        return d >= 0 && d < MAX_TAPES;
    }

    private int refuse(int refusal) {
        hostRefusals++;
        return refusal;
    }

    private int copyFault(int d) {
        if (!isTape(d)) {
            return NONE;
        }
        if (tapes[d].sort == 0) {
            return refuse(NOTHING);
        }
        return tapes[d].sort == SORT_COPY ? FINE : refuse(CAST);
    }

    /** How a processor and its tasks are behind a mark. */
    private static final class Moment {
        final int[] states = new int[MAX_TASKS];
        final int[] wanted = new int[MAX_TASKS];
        final int[] holders = new int[MAX_LOCKS];
        int current = NOBODY;
        boolean in = false;

        Moment() {
            Arrays.fill(holders, NOBODY);
        }

        void reset() {
            Arrays.fill(states, IDLE);
            Arrays.fill(holders, NOBODY);
            current = NOBODY;
            in = false;
        }

        void become(Moment other) {
            System.arraycopy(other.states, 0, states, 0, MAX_TASKS);
            System.arraycopy(other.wanted, 0, wanted, 0, MAX_TASKS);
            System.arraycopy(other.holders, 0, holders, 0, MAX_LOCKS);
            current = other.current;
            in = other.in;
        }

        int stateOf(int task) {
            return task >= 0 && task < MAX_TASKS ? states[task] : NONE;
        }

        int holderOf(int lock) {
            return lock >= 0 && lock < MAX_LOCKS ? holders[lock] : NOBODY;
        }

        /** Who holds the lock that a wanting task wants. */
        int holderAgainst(int task) {
            return task >= 0 && task < MAX_TASKS ? holderOf(wanted[task]) : NOBODY;
        }

        boolean wants(int task, int lock) {
            return stateOf(task) == WANTING && wanted[task] == lock;
        }

        boolean acts(int task) {
            return current == task && stateOf(task) == RUNNING && !in;
        }

        boolean allows(int kind, int task, int x) {
            int state = stateOf(task);
            switch (kind) {
                case MARK_READY:
                    return state == IDLE || state == UNKNOWN;
                case MARK_RUN:
                    return (state == READY || state == UNKNOWN) && !in;
                case MARK_BLOCK:
                    return acts(task);
                case MARK_WANT:
                    return acts(task) && holderOf(x) != NOBODY && holderOf(x) != task;
                case MARK_LOCK:
                    return holderOf(x) == NOBODY && (acts(task) || wants(task, x));
                case MARK_FREE:
                    return acts(task) && holderOf(x) == task;
                case MARK_IN:
                    return !in;
                case MARK_OUT:
                    return in;
                default:
                    return true;
            }
        }

        /** Takes a mark that is allowed. */
        void apply(int kind, int task, int x) {
            switch (kind) {
                case MARK_READY:
                    setState(task, READY);
                    break;
                case MARK_RUN:
                    setState(current, READY);
                    setState(task, RUNNING);
                    current = task;
                    break;
                case MARK_BLOCK:
                    setState(task, IDLE);
                    current = NOBODY;
                    break;
                case MARK_WANT:
                    startWanting(task, x);
                    break;
                case MARK_LOCK:
                    setHolder(x, task);
                    if (stateOf(task) == WANTING) {
                        setState(task, READY);
                    }
                    break;
                case MARK_FREE:
                    setHolder(x, NOBODY);
                    break;
                case MARK_IN:
                    in = true;
                    break;
                case MARK_OUT:
                    in = false;
                    break;
                case MARK_LOST:
                    loseAll();
                    break;
                default:
                    break;
            }
        }

        private void setState(int task, int state) {
            if (task >= 0 && task < MAX_TASKS) {
                states[task] = state;
            }
        }

        private void startWanting(int task, int lock) {
            setState(task, WANTING);
            if (task >= 0 && task < MAX_TASKS) {
                wanted[task] = lock;
            }
            current = NOBODY;
        }

        private void setHolder(int lock, int task) {
            if (lock >= 0 && lock < MAX_LOCKS) {
                holders[lock] = task;
            }
        }

        private void loseAll() {
            Arrays.fill(states, UNKNOWN);
            Arrays.fill(holders, NOBODY);
            current = NOBODY_KNOWS;
            in = false;
        }

        /** A chain that passes more tasks than there are goes round. */
        int chainOf(int task) {
            int link = task;
            for (int links = 1; links <= MAX_TASKS; links++) {
                link = holderAgainst(link);
                if (stateOf(link) != WANTING) {
                    return links;
                }
            }
            return ENDLESS_CHAIN;
        }
    }

    /** The marks of one processor. */
    private static final class Lane {
        final int[] kinds = new int[MAX_MARKS];
        final int[] tasks = new int[MAX_MARKS];
        final int[] numbers = new int[MAX_MARKS];
        final int[] times = new int[MAX_MARKS];
        final Moment last = new Moment();
        int size = 0;

        void empty() {
            size = 0;
            last.reset();
        }

        void become(Lane other) {
            size = other.size;
            if (size > 0 && size <= MAX_MARKS) {
                System.arraycopy(other.kinds, 0, kinds, 0, size);
                System.arraycopy(other.tasks, 0, tasks, 0, size);
                System.arraycopy(other.numbers, 0, numbers, 0, size);
                System.arraycopy(other.times, 0, times, 0, size);
            }
            last.become(other.last);
        }

        boolean isFull() {
            return size >= MAX_MARKS;
        }

        void add(int kind, int task, int x, int time) {
            if (size < 0 || size >= MAX_MARKS) {
                return;
            }
            kinds[size] = kind;
            tasks[size] = task;
            numbers[size] = x;
            times[size] = time;
            size++;
            last.apply(kind, task, x);
        }

        boolean has(int i) {
            return i >= 0 && i < size && i < MAX_MARKS;
        }

        int kindOf(int i) {
            return has(i) ? kinds[i] : NONE;
        }

        int taskOf(int i) {
            return has(i) ? tasks[i] : NONE;
        }

        int numberOf(int i) {
            return has(i) ? numbers[i] : NONE;
        }

        int timeOf(int i) {
            return has(i) ? times[i] : 0;
        }

        int wholeLength() {
            return timeOf(size - 1) - timeOf(0);
        }

        boolean isMarkOf(int i, int kind, int task) {
            return kindOf(i) == kind && taskOf(i) == task;
        }

        boolean isMarkWith(int i, int kind, int x) {
            return kindOf(i) == kind && numberOf(i) == x;
        }

        /** Where the work that is made ready at a mark ends: at its block, at a lost, or at the last mark. */
        int endOfWork(int i, int task) {
            for (int k = i + 1; k < size; k++) {
                if (isMarkOf(k, MARK_BLOCK, task) || kindOf(k) == MARK_LOST) {
                    return k;
                }
            }
            return size - 1;
        }

        /** Where the hold of a lock that begins at a mark ends: at its free, at a lost, or at the last mark. */
        int endOfHold(int i, int lock) {
            for (int k = i + 1; k < size; k++) {
                if (isMarkWith(k, MARK_FREE, lock) || kindOf(k) == MARK_LOST) {
                    return k;
                }
            }
            return size - 1;
        }

        /** The first mark behind a lost that tells of a task again, or the last mark. */
        int nextSignOf(int lost, int task) {
            for (int k = lost + 1; k < size; k++) {
                if (isMarkOf(k, MARK_READY, task) || isMarkOf(k, MARK_RUN, task)) {
                    return k;
                }
            }
            return size - 1;
        }
    }

    /** All that a copy keeps: the marks of all processors, homes, ranks and sizes. */
    private static final class Trace {
        final int[] homes = new int[MAX_TASKS];
        final int[] ranks = new int[MAX_TASKS];
        final Lane[] lanes = new Lane[MAX_PROCESSORS];
        /** Of each mark 9 .. 12 with each x: processor * MAX_MARKS + number, or NONE. */
        final int[] letters = new int[4 * LETTERS];
        int processors = 1;
        int tasks = 2;
        int bits = MOST_BITS;

        Trace() {
            Arrays.fill(letters, NONE);
            for (int p = 0; p < MAX_PROCESSORS; p++) {
                lanes[p] = new Lane();
            }
        }

        void restart(int newProcessors, int newTasks, int newBits) {
            processors = newProcessors;
            tasks = newTasks;
            bits = newBits;
            Arrays.fill(homes, 0);
            Arrays.fill(ranks, 0);
            Arrays.fill(letters, NONE);
            for (int p = 0; p < MAX_PROCESSORS; p++) {
                lanes[p].empty();
            }
        }

        void become(Trace other) {
            processors = other.processors;
            tasks = other.tasks;
            bits = other.bits;
            System.arraycopy(other.homes, 0, homes, 0, MAX_TASKS);
            System.arraycopy(other.ranks, 0, ranks, 0, MAX_TASKS);
            System.arraycopy(other.letters, 0, letters, 0, 4 * LETTERS);
            for (int p = 0; p < MAX_PROCESSORS; p++) {
                lanes[p].become(other.lanes[p]);
            }
        }

        boolean hasProcessor(int processor) {
            return processor >= 0 && processor < processors && processor < MAX_PROCESSORS;
        }

        boolean hasTask(int task) {
            return task >= 0 && task < tasks && task < MAX_TASKS;
        }

        int homeOf(int task) {
            return task >= 0 && task < MAX_TASKS ? homes[task] : 0;
        }

        int rankOf(int task) {
            return task >= 0 && task < MAX_TASKS ? ranks[task] : 0;
        }

        Lane laneOf(int processor) {
            return lanes[processor >= 0 && processor < MAX_PROCESSORS ? processor : 0];
        }

        Lane homeLane(int task) {
            return laneOf(homeOf(task));
        }

        int allMarks() {
            int all = 0;
            for (int p = 0; p < MAX_PROCESSORS; p++) {
                all += lanes[p].size;
            }
            return all;
        }

        int faultOf(int processor, int kind, int task, int x, int clock) {
            if (!hasProcessor(processor) || clock < 0 || clock > clockMask() || !isFormed(kind, task, x)) {
                return NONE;
            }
            Lane lane = laneOf(processor);
            boolean away = kind <= MARK_FREE && homeOf(task) != processor;
            if (away || !lane.last.allows(kind, task, x)) {
                return BAD;
            }
            if (kind >= MARK_SEND && letterAt(kind, x) != NONE) {
                return TWICE;
            }
            return lane.isFull() ? FULL : FINE;
        }

        private int clockMask() {
            return (1 << bits) - 1;
        }

        private boolean isFormed(int kind, int task, int x) {
            if (kind < MARK_READY || kind > MARK_ANSWER) {
                return false;
            }
            boolean taskFits = kind <= MARK_FREE ? hasTask(task) : task == NONE;
            if (kind >= MARK_WANT && kind <= MARK_FREE) {
                return taskFits && x >= 0 && x < MAX_LOCKS;
            }
            if (kind >= MARK_SEND) {
                return taskFits && x >= 0 && x < LETTERS;
            }
            return taskFits && x == NONE;
        }

        /** Adds a mark without fault and answers its number. */
        int addMark(int processor, int kind, int task, int x, int clock) {
            Lane lane = laneOf(processor);
            int number = lane.size;
            int before = lane.timeOf(number - 1);
            // a time's low bits are its clock, so the masked difference leads round to the clock told
            int time = number == 0 ? clock : before + ((clock - before) & clockMask());
            lane.add(kind, task, x, time);
            int place = letterPlace(kind, x);
            if (place != NONE) {
                letters[place] = processor * MAX_MARKS + number;
            }
            return number;
        }

        private static int letterPlace(int kind, int x) {
            if (kind < MARK_SEND || kind > MARK_ANSWER || x < 0 || x >= LETTERS) {
                return NONE;
            }
            return (kind - MARK_SEND) * LETTERS + x;
        }

        int letterAt(int kind, int x) {
            int place = letterPlace(kind, x);
            return place == NONE ? NONE : letters[place];
        }

        int letterProcessor(int letter) {
            return letter / MAX_MARKS;
        }

        int letterTime(int letter) {
            return laneOf(letterProcessor(letter)).timeOf(letter % MAX_MARKS);
        }
    }

    /** Goes over the stretches of a lane, from its first mark on. */
    private static final class Walk {
        final Moment now = new Moment();
        int length = 0;
        boolean dark = false;

        void start() {
            now.reset();
            length = 0;
            dark = false;
        }

        /** Goes into the stretch behind mark i; the last mark has one of length 0. */
        void step(Lane lane, int i) {
            now.apply(lane.kindOf(i), lane.taskOf(i), lane.numberOf(i));
            length = lane.has(i + 1) ? lane.timeOf(i + 1) - lane.timeOf(i) : 0;
            dark = lane.kindOf(i + 1) == MARK_LOST || now.current == NOBODY_KNOWS;
        }

        int countsAs(int task) {
            if (dark) {
                return UNKNOWN;
            }
            int state = now.stateOf(task);
            return state == RUNNING && now.in ? READY : state;
        }

        int doing() {
            if (dark) {
                return IS_DARK;
            }
            if (now.in) {
                return IS_IN;
            }
            return now.current >= 0 ? HAS_TASK : DOES_NOTHING;
        }

        int readyBy(int task, Trace trace) {
            if (now.in) {
                return 0;
            }
            if (now.current < 0) {
                return 4;
            }
            int order = Integer.compare(trace.rankOf(now.current), trace.rankOf(task));
            if (order == 0) {
                return 2;
            }
            return order > 0 ? 1 : 3;
        }

        int wantingBy(int task, Trace trace) {
            if (now.in) {
                return 0;
            }
            int holding = now.holderAgainst(task);
            if (holding == NOBODY) {
                return 6;
            }
            if (holding == now.current) {
                return 1;
            }
            if (now.stateOf(holding) == WANTING) {
                return 2;
            }
            if (now.current < 0) {
                return 5;
            }
            return trace.rankOf(now.current) >= trace.rankOf(task) ? 3 : 4;
        }

        /** Whether some task is ready in a stretch that isn't dark, with the processor doing nothing. */
        boolean wastes() {
            if (length <= 0 || doing() != DOES_NOTHING) {
                return false;
            }
            for (int t = 0; t < MAX_TASKS; t++) {
                if (countsAs(t) == READY) {
                    return true;
                }
            }
            return false;
        }
    }

    /** The jobs of all tasks of a lane, in the order of their blocks (so those of one task in theirs). */
    private static final class JobRows {
        final int[] owners = new int[MAX_JOBS];
        final int[] readyMarks = new int[MAX_JOBS];
        final int[] readies = new int[MAX_JOBS];
        final int[] blocks = new int[MAX_JOBS];
        final int[] demands = new int[MAX_JOBS];
        final int[] wantings = new int[MAX_JOBS];
        final int[] lefts = new int[MAX_JOBS];
        final int[] dones = new int[MAX_JOBS];
        /** Of each task the ready mark of the job that is under way, or NONE. */
        final int[] openMarks = new int[MAX_TASKS];
        final int[] openDemands = new int[MAX_TASKS];
        final int[] openWantings = new int[MAX_TASKS];
        int size = 0;

        void gather(Lane lane, Walk walk) {
            size = 0;
            Arrays.fill(openMarks, NONE);
            walk.start();
            for (int i = 0; i < lane.size; i++) {
                meet(lane, i);
                walk.step(lane, i);
                if (walk.dark) {
                    Arrays.fill(openMarks, NONE);
                } else {
                    addStretch(walk);
                }
            }
        }

        private void meet(Lane lane, int i) {
            int task = lane.taskOf(i);
            if (task < 0 || task >= MAX_TASKS) {
                return;
            }
            if (lane.kindOf(i) == MARK_READY) {
                openMarks[task] = i;
                openDemands[task] = 0;
                openWantings[task] = 0;
            }
            if (lane.kindOf(i) == MARK_BLOCK && openMarks[task] != NONE) {
                close(lane, task, i);
            }
        }

        private void close(Lane lane, int task, int block) {
            if (task < 0 || task >= MAX_TASKS || size < 0 || size >= MAX_JOBS) {
                return;
            }
            owners[size] = task;
            readyMarks[size] = openMarks[task];
            readies[size] = lane.timeOf(openMarks[task]);
            blocks[size] = lane.timeOf(block);
            demands[size] = openDemands[task];
            wantings[size] = openWantings[task];
            size++;
            openMarks[task] = NONE;
        }

        private void addStretch(Walk walk) {
            for (int t = 0; t < MAX_TASKS; t++) {
                if (openMarks[t] != NONE) {
                    int as = walk.countsAs(t);
                    openDemands[t] += as == RUNNING ? walk.length : 0;
                    openWantings[t] += as == WANTING ? walk.length : 0;
                }
            }
        }

        boolean has(int row) {
            return row >= 0 && row < size && row < MAX_JOBS;
        }

        boolean isOf(int row, int task) {
            return has(row) && owners[row] == task;
        }

        int manyOf(int task) {
            int many = 0;
            for (int row = 0; row < size; row++) {
                many += isOf(row, task) ? 1 : 0;
            }
            return many;
        }

        int rowOf(int task, int i) {
            int number = 0;
            for (int row = 0; row < size; row++) {
                if (isOf(row, task)) {
                    if (number == i) {
                        return row;
                    }
                    number++;
                }
            }
            return NONE;
        }

        int responseOf(int row) {
            return has(row) ? blocks[row] - readies[row] : 0;
        }

        /** Fills dones; the rows are gathered from the same lane. */
        void rerun(Lane lane, int[] ranks, Walk walk) {
            for (int row = 0; row < size && row < MAX_JOBS; row++) {
                lefts[row] = demands[row];
                // stays so for a job that needs nothing
                dones[row] = readies[row];
            }
            walk.start();
            for (int i = 0; i < lane.size; i++) {
                walk.step(lane, i);
                if (i + 1 == lane.size) {
                    runJobs(i, lane.timeOf(i), FAR, ranks);
                } else if (walk.doing() == HAS_TASK || walk.doing() == DOES_NOTHING) {
                    runJobs(i, lane.timeOf(i), lane.timeOf(i + 1), ranks);
                }
            }
        }

        private void runJobs(int mark, int from, int end, int[] ranks) {
            int clock = from;
            // each turn ends the span or a job
            for (int turn = 0; turn <= MAX_JOBS && clock < end; turn++) {
                int row = foremost(mark, ranks);
                if (!has(row)) {
                    return;
                }
                int part = Math.min(lefts[row], end - clock);
                clock += part;
                lefts[row] -= part;
                dones[row] = clock;
            }
        }

        /** The row that runs among those that have come up to a mark and aren't done; NONE if there is none. */
        private int foremost(int mark, int[] ranks) {
            int best = NONE;
            for (int row = 0; row < size && row < MAX_JOBS; row++) {
                boolean waits = readyMarks[row] <= mark && lefts[row] > 0;
                if (waits && (best == NONE || goesAhead(row, best, ranks))) {
                    best = row;
                }
            }
            return best;
        }

        private boolean goesAhead(int row, int than, int[] ranks) {
            int mine = owners[row];
            int theirs = owners[than];
            if (mine < 0 || mine >= ranks.length || theirs < 0 || theirs >= ranks.length) {
                return false;
            }
            if (ranks[mine] != ranks[theirs]) {
                return ranks[mine] > ranks[theirs];
            }
            return mine != theirs ? mine < theirs : readyMarks[row] < readyMarks[than];
        }

        /** The jitter is convex over p, so its least lies where it first stops falling. */
        int periodOf(int task) {
            int low = 1;
            int high = Math.max(1, lastReadyOf(task) - firstReadyOf(task));
            for (int turn = 0; turn < 32 && low < high; turn++) {
                int middle = low + (high - low) / 2;
                if (jitterOf(task, middle + 1) >= jitterOf(task, middle)) {
                    high = middle;
                } else {
                    low = middle + 1;
                }
            }
            return low;
        }

        private int firstReadyOf(int task) {
            int row = rowOf(task, 0);
            return has(row) ? readies[row] : 0;
        }

        private int lastReadyOf(int task) {
            int row = rowOf(task, manyOf(task) - 1);
            return has(row) ? readies[row] : 0;
        }

        long jitterOf(int task, int p) {
            long least = firstReadyOf(task);
            long greatest = least;
            long steps = 0;
            for (int row = 0; row < size; row++) {
                if (isOf(row, task)) {
                    long rest = readies[row] - steps * p;
                    least = Math.min(least, rest);
                    greatest = Math.max(greatest, rest);
                    steps++;
                }
            }
            return greatest - least;
        }
    }

    /** The laws that are told. */
    private static final class LawBook {
        final int[] kinds = new int[MAX_LAWS];
        final int[] subjects = new int[MAX_LAWS];
        final int[] locks = new int[MAX_LAWS];
        final int[] limits = new int[MAX_LAWS];
        int size = 0;

        boolean has(int law) {
            return law >= 0 && law < size && law < MAX_LAWS;
        }

        int add(int kind, int a, int b, int d) {
            if (size < 0 || size >= MAX_LAWS) {
                return FULL;
            }
            kinds[size] = kind;
            subjects[size] = a;
            locks[size] = b;
            limits[size] = d;
            size++;
            return size - 1;
        }
    }

    /** The breaks of one law, by the times at which they begin. */
    private static final class Breaks {
        final int[] sure = new int[MAX_MARKS];
        final int[] maybe = new int[MAX_MARKS];
        int sureSize = 0;
        int maybeSize = 0;

        void forget() {
            sureSize = 0;
            maybeSize = 0;
        }

        int sureAt(int i) {
            return i >= 0 && i < sureSize && i < MAX_MARKS ? sure[i] : NONE;
        }

        int maybeAt(int i) {
            return i >= 0 && i < maybeSize && i < MAX_MARKS ? maybe[i] : NONE;
        }

        private void addSure(int time) {
            if (sureSize >= 0 && sureSize < MAX_MARKS) {
                sure[sureSize] = time;
                sureSize++;
            }
        }

        private void addMaybe(int time) {
            if (maybeSize >= 0 && maybeSize < MAX_MARKS) {
                maybe[maybeSize] = time;
                maybeSize++;
            }
        }

        void judgeBlocks(Lane lane, int task, int d) {
            for (int i = 0; i < lane.size; i++) {
                if (lane.isMarkOf(i, MARK_READY, task)) {
                    int end = lane.endOfWork(i, task);
                    judgeSpan(lane, i, end, lane.nextSignOf(end, task), d);
                }
            }
        }

        void judgeLocks(Lane lane, int lock, int d) {
            for (int i = 0; i < lane.size; i++) {
                if (lane.isMarkWith(i, MARK_LOCK, lock)) {
                    int end = lane.endOfHold(i, lock);
                    judgeSpan(lane, i, end, end, d);
                }
            }
        }

        /** A span that a lost ends went on surely up to the mark ahead of it, and maybe up to mark latest. */
        private void judgeSpan(Lane lane, int from, int end, int latest, int d) {
            int begins = lane.timeOf(from);
            boolean lost = lane.kindOf(end) == MARK_LOST;
            int sureEnd = lane.timeOf(lost ? end - 1 : end);
            if (sureEnd - begins > d) {
                addSure(begins);
            } else if (lost && lane.timeOf(latest) - begins > d) {
                addMaybe(begins);
            }
        }

        void judgeApart(Lane lane, int task, int d) {
            int before = NONE;
            boolean lost = false;
            for (int i = 0; i < lane.size; i++) {
                if (lane.kindOf(i) == MARK_LOST) {
                    lost = true;
                }
                if (lane.isMarkOf(i, MARK_READY, task)) {
                    if (before != NONE) {
                        judgePair(lane.timeOf(before), lane.timeOf(i), lost, d);
                    }
                    before = i;
                    lost = false;
                }
            }
        }

        private void judgePair(int first, int second, boolean lost, int d) {
            if (second - first < d) {
                addSure(first);
            } else if (lost) {
                addMaybe(first);
            }
        }

        void judgeIdle(Lane lane, Walk walk) {
            walk.start();
            for (int i = 0; i + 1 < lane.size; i++) {
                walk.step(lane, i);
                if (walk.wastes()) {
                    addSure(lane.timeOf(i));
                }
            }
        }
    }

    /** What the letters say of the processors' offs. */
    private static final class Offs {
        /** At p * MAX_PROCESSORS + q: the least that off(q) less off(p) can be. */
        final long[] least = new long[MAX_PROCESSORS * MAX_PROCESSORS];

        void join(Trace trace) {
            Arrays.fill(least, UNBOUND);
            for (int p = 0; p < MAX_PROCESSORS; p++) {
                raise(p, p, 0);
            }
            for (int x = 0; x < LETTERS; x++) {
                int sent = trace.letterAt(MARK_SEND, x);
                int received = trace.letterAt(MARK_RECEIVE, x);
                if (sent != NONE && received != NONE) {
                    long bound = (long) trace.letterTime(sent) - trace.letterTime(received);
                    raise(trace.letterProcessor(sent), trace.letterProcessor(received), bound);
                }
            }
            for (int middle = 0; middle < MAX_PROCESSORS; middle++) {
                joinThrough(middle);
            }
        }

        private void joinThrough(int middle) {
            for (int p = 0; p < MAX_PROCESSORS; p++) {
                for (int q = 0; q < MAX_PROCESSORS; q++) {
                    long there = boundOf(p, middle);
                    long on = boundOf(middle, q);
                    if (there != UNBOUND && on != UNBOUND) {
                        raise(p, q, there + on);
                    }
                }
            }
        }

        private static int placeOf(int p, int q) {
            if (p < 0 || p >= MAX_PROCESSORS || q < 0 || q >= MAX_PROCESSORS) {
                return NONE;
            }
            return p * MAX_PROCESSORS + q;
        }

        private long boundOf(int p, int q) {
            int place = placeOf(p, q);
            return place == NONE ? UNBOUND : least[place];
        }

        private void raise(int p, int q, long bound) {
            int place = placeOf(p, q);
            if (place != NONE) {
                least[place] = Math.max(least[place], bound);
            }
        }

        /** A processor that must be ahead of itself tells that no offs keep all bounds. */
        boolean agrees() {
            for (int p = 0; p < MAX_PROCESSORS; p++) {
                if (boundOf(p, p) > 0) {
                    return false;
                }
            }
            return true;
        }

        boolean hasValue(int p, int q, int what) {
            return agrees() && (what == 0 ? boundOf(p, q) : boundOf(q, p)) != UNBOUND;
        }

        /** The greatest gap one way is the least one the other way, turned round. */
        int valueOf(int p, int q, int what) {
            return (int) (what == 0 ? boundOf(p, q) : -boundOf(q, p));
        }
    }

    /** A tape: nothing (sort 0), a row, or a copy. */
    private static final class Tape {
        final long[] row = new long[MAX_ROW];
        int sort = 0;
        int size = 0;
        /** Made by the first copy that is kept here, and used again by later ones. */
        Trace kept = null;

        void layRow(int newSort, int n) {
            Arrays.fill(row, 0L);
            sort = newSort;
            size = n;
        }

        void layCopy(Trace trace) {
            if (kept == null) {
                kept = new Trace();
            }
            kept.become(trace);
            sort = SORT_COPY;
        }

        boolean hasRow() {
            return sort >= SORT_BYTE && sort <= SORT_LONG;
        }

        boolean hasPlaces(long from, int many) {
            return from >= 0 && many >= 0 && from + many <= size && from + many <= MAX_ROW;
        }

        int intAt(int i) {
            return i >= 0 && i < MAX_ROW ? (int) row[i] : 0;
        }

        long narrow(long v) {
            switch (sort) {
                case SORT_BYTE:
                    return (byte) v;
                case SORT_SHORT:
                    return (short) v;
                case SORT_INT:
                    return (int) v;
                default:
                    return v;
            }
        }
    }
}
