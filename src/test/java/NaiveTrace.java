import java.util.ArrayList;
import java.util.HashMap;
import java.util.List;
import java.util.Map;

/** The document's words, followed by the slowest and plainest ways; used to judge the answers of TaskTrace. */
public final class NaiveTrace {
    record Mark(int kind, int task, int x, int time) {}

    record Job(int task, int from, int to, int ready, int block, int demand, int wanting) {}

    record Break(boolean sure, int time) {}

    record Law(int kind, int a, int b, int d) {}

    /** How processor and tasks are behind a mark; current -1 for none, 99 for unknown. */
    static final class View {
        Map<Integer, String> states = new HashMap<>();
        Map<Integer, Integer> wants = new HashMap<>();
        Map<Integer, Integer> holders = new HashMap<>();
        int current = -1;
        boolean in;
        boolean dark;
        int length;

        String state(int t) {
            return states.getOrDefault(t, "IDLE");
        }

        String counts(int t) {
            return dark ? "UNKNOWN" : in && state(t).equals("RUNNING") ? "READY" : state(t);
        }
    }

    static final class World {
        int P = 1, T = 2, W = 16;
        int[] homes = new int[8];
        int[] ranks = new int[8];
        List<List<Mark>> marks = List.of(new ArrayList<>(), new ArrayList<>(), new ArrayList<>());

        World twin() {
            World w = new World();
            w.P = P;
            w.T = T;
            w.W = W;
            w.homes = homes.clone();
            w.ranks = ranks.clone();
            for (int p = 0; p < 3; p++) {
                w.marks.get(p).addAll(marks.get(p));
            }
            return w;
        }

        int size() {
            return marks.stream().mapToInt(List::size).sum();
        }
    }

    private static final String[] NAMES = {"IDLE", "READY", "RUNNING", "WANTING", "UNKNOWN"};

    World w = new World();
    private Integer[] others = new Integer[8];
    private List<Law> laws = new ArrayList<>();
    private final Object[] tapes = new Object[6];
    private int refused, host;

    private boolean noTask(int t) {
        return t < 0 || t >= w.T;
    }

    private boolean noProcessor(int p) {
        return p < 0 || p >= w.P;
    }

    private boolean noTape(int d) {
        return d < 0 || d > 5;
    }

    private int host(int code) {
        host++;
        return code;
    }

    public int begin(int processors, int tasks, int bits) {
        if (processors < 1 || processors > 3 || tasks < 1 || tasks > 8 || bits < 4 || bits > 16) return -1;
        w = new World();
        w.P = processors;
        w.T = tasks;
        w.W = bits;
        others = new Integer[8];
        laws = new ArrayList<>();
        refused = host = 0;
        return processors;
    }

    public int home(int task, int processor) {
        if (noTask(task) || noProcessor(processor)) return -1;
        if (w.size() > 0) return -2;
        int old = w.homes[task];
        w.homes[task] = processor;
        return old;
    }

    public int rank(int task, int rank) {
        if (noTask(task) || rank < 0 || rank > 15) return -1;
        int old = w.ranks[task];
        w.ranks[task] = rank;
        return old;
    }

    private int otherOf(int task) {
        return others[task] == null ? w.ranks[task] : others[task];
    }

    public int other(int task, int rank) {
        if (noTask(task) || rank < 0 || rank > 15) return -1;
        int old = otherOf(task);
        others[task] = rank;
        return old;
    }

    /** Behind mark i of a processor (-1: ahead of the first). */
    private static View view(World w, int p, int i) {
        List<Mark> marks = w.marks.get(p);
        View v = new View();
        for (int k = 0; k <= i; k++) {
            Mark m = marks.get(k);
            if (m.kind == 0) v.states.put(m.task, "READY");
            if (m.kind == 1) {
                if (v.current >= 0 && v.current < 99) v.states.put(v.current, "READY");
                v.states.put(m.task, "RUNNING");
                v.current = m.task;
            }
            if (m.kind == 2) v.states.put(m.task, "IDLE");
            if (m.kind == 3) {
                v.states.put(m.task, "WANTING");
                v.wants.put(m.task, m.x);
            }
            if (m.kind == 2 || m.kind == 3) v.current = -1;
            if (m.kind == 4) {
                v.holders.put(m.x, m.task);
                if (v.state(m.task).equals("WANTING")) v.states.put(m.task, "READY");
            }
            if (m.kind == 5) v.holders.remove(m.x);
            if (m.kind == 6) v.in = true;
            if (m.kind == 7 || m.kind == 8) v.in = false;
            if (m.kind == 8) {
                for (int t = 0; t < w.T; t++) if (w.homes[t] == p) v.states.put(t, "UNKNOWN");
                v.current = 99;
                v.holders.clear();
            }
        }
        if (i >= 0 && i + 1 < marks.size()) {
            v.length = marks.get(i + 1).time - marks.get(i).time;
            v.dark = marks.get(i + 1).kind == 8 || v.current == 99;
        }
        return v;
    }

    private static List<View> views(World w, int p) {
        List<View> all = new ArrayList<>();
        for (int i = 0; i + 1 < w.marks.get(p).size(); i++) all.add(view(w, p, i));
        return all;
    }

    /** What mark() would answer. */
    int judge(int p, int kind, int task, int x, int clock) {
        if (noProcessor(p) || kind < 0 || kind > 12 || clock < 0 || clock >= 1 << w.W) return -1;
        if (kind <= 5 ? noTask(task) : task != -1) return -1;
        boolean wantsLock = kind == 3 || kind == 4 || kind == 5;
        if (wantsLock ? x < 0 || x > 3 : kind >= 9 ? x < 0 || x > 63 : x != -1) return -1;
        if (kind <= 5 && w.homes[task] != p) return -3;
        View v = view(w, p, w.marks.get(p).size() - 1);
        String s = kind <= 5 ? v.state(task) : "";
        boolean acts = s.equals("RUNNING") && v.current == task && !v.in;
        Integer h = v.holders.get(x);
        boolean fits = switch (kind) {
            case 0 -> s.equals("IDLE") || s.equals("UNKNOWN");
            case 1 -> !v.in && (s.equals("READY") || s.equals("UNKNOWN"));
            case 2 -> acts;
            case 3 -> acts && h != null && h != task;
            case 4 -> h == null && (acts || s.equals("WANTING") && v.wants.get(task) == x);
            case 5 -> acts && h != null && h == task;
            case 6 -> !v.in;
            case 7 -> v.in;
            default -> true;
        };
        if (!fits) return -3;
        if (kind >= 9) for (List<Mark> l : w.marks) for (Mark m : l) if (m.kind == kind && m.x == x) return -5;
        return w.marks.get(p).size() >= 200 ? -4 : w.marks.get(p).size();
    }

    /** Whether a WANT would make a ring of tasks that wait for one another. */
    boolean closesRing(int p, int task, int lock) {
        View v = view(w, p, w.marks.get(p).size() - 1);
        Integer h = v.holders.get(lock);
        for (int k = 0; k < 9 && h != null; k++) {
            if (h == task) return true;
            h = v.state(h).equals("WANTING") ? v.holders.get(v.wants.get(h)) : null;
        }
        return false;
    }

    public int mark(int processor, int kind, int task, int x, int clock) {
        int answer = judge(processor, kind, task, x, clock);
        if (answer < 0) {
            refused++;
            return answer;
        }
        List<Mark> marks = w.marks.get(processor);
        int time = clock;
        if (!marks.isEmpty()) {
            time = marks.get(marks.size() - 1).time;
            while (time % (1 << w.W) != clock) time++;
        }
        marks.add(new Mark(kind, task, x, time));
        return answer;
    }

    public int told(int processor, int i, int what) {
        if (noProcessor(processor) || i < 0 || i >= w.marks.get(processor).size() || what < 0 || what > 3) return -1;
        Mark m = w.marks.get(processor).get(i);
        return new int[] {m.kind, m.task, m.x, m.time}[what];
    }

    public int state(int task) {
        if (noTask(task)) return -1;
        int p = w.homes[task];
        return List.of(NAMES).indexOf(view(w, p, w.marks.get(p).size() - 1).state(task));
    }

    public int holder(int processor, int lock) {
        if (noProcessor(processor) || lock < 0 || lock > 3) return -1;
        return view(w, processor, w.marks.get(processor).size() - 1).holders.getOrDefault(lock, -2);
    }

    private static int sumOf(World w, int task, int what) {
        int all = 0;
        for (View v : views(w, w.homes[task])) if (what == 5 || v.counts(task).equals(NAMES[what])) all += v.length;
        return all;
    }

    public int sum(int task, int what) {
        return noTask(task) || what < 0 || what > 5 ? -1 : sumOf(w, task, what);
    }

    public int busy(int processor, int what) {
        if (noProcessor(processor) || what < 0 || what > 3) return -1;
        int[] all = new int[4];
        for (View v : views(w, processor)) all[v.dark ? 3 : v.in ? 1 : v.current >= 0 ? 2 : 0] += v.length;
        return all[what];
    }

    public int wait(int task, int what) {
        if (noTask(task) || what < 0 || what > 4) return -1;
        int[] all = new int[5];
        for (View v : views(w, w.homes[task])) {
            if (!v.counts(task).equals("READY")) continue;
            int by;
            if (v.in) by = 0;
            else if (v.current == -1) by = 4;
            else if (w.ranks[v.current] > w.ranks[task]) by = 1;
            else if (w.ranks[v.current] == w.ranks[task]) by = 2;
            else by = 3;
            all[by] += v.length;
        }
        return all[what];
    }

    public int held(int task, int what) {
        if (noTask(task) || what < 0 || what > 6) return -1;
        int[] all = new int[7];
        for (View v : views(w, w.homes[task])) {
            if (!v.counts(task).equals("WANTING")) continue;
            Integer h = v.holders.get(v.wants.get(task));
            int by;
            if (v.in) by = 0;
            else if (h == null) by = 6;
            else if (v.current == h) by = 1;
            else if (v.state(h).equals("WANTING")) by = 2;
            else if (v.current != -1 && w.ranks[v.current] >= w.ranks[task]) by = 3;
            else if (v.current != -1) by = 4;
            else by = 5;
            all[by] += v.length;
        }
        return all[what];
    }

    private static int chainIn(View v, int task, int depth) {
        if (depth > 20) return 99;
        Integer h = v.holders.get(v.wants.get(task));
        if (h == null || !v.state(h).equals("WANTING")) return 1;
        int rest = chainIn(v, h, depth + 1);
        return rest == 99 ? 99 : 1 + rest;
    }

    public int chain(int task) {
        if (noTask(task)) return -1;
        int most = 0;
        for (View v : views(w, w.homes[task])) {
            if (v.counts(task).equals("WANTING")) most = Math.max(most, Math.min(9, chainIn(v, task, 0)));
        }
        return most;
    }

    private List<Job> jobsOf(int task) {
        List<Job> all = new ArrayList<>();
        int p = w.homes[task];
        List<Mark> marks = w.marks.get(p);
        List<View> views = views(w, p);
        for (int r = 0; r < marks.size(); r++) {
            if (marks.get(r).kind != 0 || marks.get(r).task != task) continue;
            int b = r + 1;
            while (b < marks.size() && !(marks.get(b).kind == 2 && marks.get(b).task == task)) b++;
            if (b == marks.size()) continue;
            boolean fine = true;
            int demand = 0, wanting = 0;
            for (int k = r; k < b; k++) {
                String as = views.get(k).counts(task);
                if (as.equals("UNKNOWN") || k > r && marks.get(k).kind == 0 && marks.get(k).task == task) fine = false;
                if (as.equals("RUNNING")) demand += views.get(k).length;
                if (as.equals("WANTING")) wanting += views.get(k).length;
            }
            if (fine) all.add(new Job(task, r, b, marks.get(r).time, marks.get(b).time, demand, wanting));
        }
        return all;
    }

    public int jobs(int task) {
        return noTask(task) ? -1 : jobsOf(task).size();
    }

    public int job(int task, int i, int what) {
        if (noTask(task) || i < 0 || i >= jobsOf(task).size() || what < 0 || what > 4) return -1;
        Job j = jobsOf(task).get(i);
        return new int[] {j.ready, j.block, j.block - j.ready, j.demand, j.wanting}[what];
    }

    public int worst(int task) {
        if (noTask(task)) return -1;
        List<Job> all = jobsOf(task);
        int best = -1;
        for (int i = all.size() - 1; i >= 0; i--) {
            if (best < 0 || all.get(i).block - all.get(i).ready >= all.get(best).block - all.get(best).ready) best = i;
        }
        return best;
    }

    public int late(int task, int d) {
        if (noTask(task) || d < 0) return -1;
        return (int) jobsOf(task).stream().filter(j -> j.block - j.ready > d).count();
    }

    public int law(int kind, int a, int b, int d) {
        if (kind < 0 || kind > 3) return -1;
        if (kind % 2 == 0 ? noTask(a) : noProcessor(a)) return -1;
        if (kind == 1 ? b < 0 || b > 3 : b != 0) return -1;
        if (d < 0 || kind == 3 && d != 0) return -1;
        if (laws.size() == 8) return -4;
        laws.add(new Law(kind, a, b, d));
        return laws.size() - 1;
    }

    private static boolean is(Mark m, int kind, int task) {
        return m.kind == kind && m.task == task;
    }

    private List<Break> breaksOf(Law law) {
        List<Break> all = new ArrayList<>();
        int p = law.kind % 2 == 0 ? w.homes[law.a] : law.a;
        List<Mark> marks = w.marks.get(p);
        int n = marks.size();
        for (int i = 0; i < n; i++) {
            Mark m = marks.get(i);
            if (law.kind == 0 && is(m, 0, law.a)) {
                int e = i;
                do e++; while (e < n && !is(marks.get(e), 2, law.a) && marks.get(e).kind != 8);
                boolean lost = e < n && marks.get(e).kind == 8;
                if (!lost) {
                    if (marks.get(Math.min(e, n - 1)).time - m.time > law.d) all.add(new Break(true, m.time));
                } else if (marks.get(e - 1).time - m.time > law.d) {
                    all.add(new Break(true, m.time));
                } else {
                    int k = e + 1;
                    while (k < n && !is(marks.get(k), 0, law.a) && !is(marks.get(k), 1, law.a)) k++;
                    if (marks.get(Math.min(k, n - 1)).time - m.time > law.d) all.add(new Break(false, m.time));
                }
            }
            if (law.kind == 1 && m.kind == 4 && m.x == law.b) {
                int e = i + 1;
                while (e < n && !(marks.get(e).kind == 5 && marks.get(e).x == law.b) && marks.get(e).kind != 8) e++;
                boolean lost = e < n && marks.get(e).kind == 8;
                int sureEnd = lost ? marks.get(e - 1).time : marks.get(Math.min(e, n - 1)).time;
                if (sureEnd - m.time > law.d) all.add(new Break(true, m.time));
                else if (lost && marks.get(e).time - m.time > law.d) all.add(new Break(false, m.time));
            }
            if (law.kind == 2 && is(m, 0, law.a)) {
                boolean lost = false;
                for (int k = i + 1; k < n; k++) {
                    if (marks.get(k).kind == 8) lost = true;
                    if (is(marks.get(k), 0, law.a)) {
                        if (marks.get(k).time - m.time < law.d) all.add(new Break(true, m.time));
                        else if (lost) all.add(new Break(false, m.time));
                        break;
                    }
                }
            }
            if (law.kind == 3 && i + 1 < n) {
                View v = view(w, p, i);
                boolean ready = false;
                for (int t = 0; t < w.T; t++) ready |= w.homes[t] == p && v.counts(t).equals("READY");
                if (ready && !v.dark && !v.in && v.current == -1 && v.length > 0) all.add(new Break(true, m.time));
            }
        }
        return all;
    }

    public int breaks(int law, int what) {
        if (law < 0 || law >= laws.size() || what < 0 || what > 1) return -1;
        return (int) breaksOf(laws.get(law)).stream().filter(b -> b.sure == (what == 0)).count();
    }

    public int broken(int law, int what, int i) {
        if (law < 0 || law >= laws.size() || what < 0 || what > 1) return -1;
        List<Break> all = breaksOf(laws.get(law)).stream().filter(b -> b.sure == (what == 0)).toList();
        return i < 0 || i >= all.size() ? -1 : all.get(i).time;
    }

    private int[] find(int kind, int x) {
        for (int p = 0; p < 3; p++) for (Mark m : w.marks.get(p)) if (m.kind == kind && m.x == x) return new int[] {p, m.time};
        return null;
    }

    /** The least off of each processor when that of one is 0 (null: without bound); null if the offs don't agree. */
    private Long[] leastFrom(int from) {
        Long[] off = new Long[3];
        off[from] = 0L;
        for (int round = 0; round < 10; round++) {
            boolean changed = false;
            for (int x = 0; x < 64; x++) {
                int[] s = find(9, x), r = find(10, x);
                if (s == null || r == null || off[s[0]] == null) continue;
                long least = off[s[0]] + s[1] - r[1];
                if (off[r[0]] == null || off[r[0]] < least) {
                    off[r[0]] = least;
                    changed = true;
                }
            }
            if (!changed) return off;
        }
        return null;
    }

    public int agree() {
        for (int p = 0; p < 3; p++) if (leastFrom(p) == null) return 0;
        return 1;
    }

    public int gap(int p, int q, int what) {
        if (noProcessor(p) || noProcessor(q) || what < 0 || what > 1) throw new IllegalArgumentException();
        if (agree() == 0) throw new IllegalStateException();
        Long v = what == 0 ? leastFrom(p)[q] : leastFrom(q)[p];
        if (v == null) throw new IllegalStateException();
        return (int) (what == 0 ? v : -v);
    }

    public int answer(int x, int what) {
        if (x < 0 || x > 63 || what < 0 || what > 1) throw new IllegalArgumentException();
        int[] s = find(11, x), a = find(12, x);
        if (s == null || a == null) throw new IllegalStateException();
        return a[1] - s[1] + (s[0] == a[0] ? 0 : gap(s[0], a[0], what));
    }

    /** Runs the jobs again, one unit of time after another. */
    private Map<Job, Integer> rerun(int p) {
        List<Job> all = new ArrayList<>();
        for (int t = 0; t < w.T; t++) if (w.homes[t] == p) all.addAll(jobsOf(t));
        Map<Job, Integer> left = new HashMap<>(), done = new HashMap<>();
        for (Job j : all) {
            left.put(j, j.demand);
            if (j.demand == 0) done.put(j, j.ready);
        }
        List<Mark> marks = w.marks.get(p);
        List<View> views = views(w, p);
        int stretch = 0;
        for (int now = marks.isEmpty() ? 0 : marks.get(0).time; done.size() < all.size(); now++) {
            while (stretch < views.size() && marks.get(stretch + 1).time <= now) stretch++;
            if (stretch < views.size() && (views.get(stretch).dark || views.get(stretch).in)) continue;
            Job best = null;
            for (Job j : all) {
                if (j.ready > now || left.get(j) == 0) continue;
                if (best == null || otherOf(j.task) > otherOf(best.task)) best = j;
            }
            if (best == null) continue;
            left.put(best, left.get(best) - 1);
            if (left.get(best) == 0) done.put(best, now + 1);
        }
        return done;
    }

    public int again(int task, int i) {
        if (noTask(task) || i < 0 || i >= jobsOf(task).size()) return -1;
        return rerun(w.homes[task]).get(jobsOf(task).get(i));
    }

    public int slowest(int task) {
        if (noTask(task)) return -1;
        Map<Job, Integer> done = rerun(w.homes[task]);
        return jobsOf(task).stream().mapToInt(j -> done.get(j) - j.ready).max().orElse(-1);
    }

    public int period(int task, int what) {
        if (noTask(task) || what < 0 || what > 1) return -1;
        List<Job> all = jobsOf(task);
        if (all.size() < 3) return -1;
        int span = Math.max(1, all.get(all.size() - 1).ready - all.get(0).ready);
        int bestP = 0;
        long bestJitter = Long.MAX_VALUE;
        for (int p = 1; p <= span; p++) {
            long low = Long.MAX_VALUE, high = Long.MIN_VALUE;
            for (int k = 0; k < all.size(); k++) {
                long rest = all.get(k).ready - (long) k * p;
                low = Math.min(low, rest);
                high = Math.max(high, rest);
            }
            if (high - low < bestJitter) {
                bestJitter = high - low;
                bestP = p;
            }
        }
        return what == 0 ? bestP : (int) bestJitter;
    }

    private static int sortOf(Object held) {
        if (held == null) return 0;
        return held instanceof byte[] ? 1 : held instanceof short[] ? 2 : held instanceof int[] ? 3 : held instanceof long[] ? 4 : 5;
    }

    private static int length(Object row) {
        return java.lang.reflect.Array.getLength(row);
    }

    public int tape(int d, int sort, int n) {
        if (noTape(d) || sort < 1 || sort > 4 || n > 100) return -1;
        if (n < 0) return host(-14);
        tapes[d] = sort == 1 ? new byte[n] : sort == 2 ? new short[n] : sort == 3 ? new int[n] : new long[n];
        return n;
    }

    public int keep(int d) {
        if (noTape(d)) return -1;
        tapes[d] = w.twin();
        return w.size();
    }

    public int back(int d) {
        if (noTape(d)) return -1;
        if (tapes[d] == null) return host(-11);
        if (!(tapes[d] instanceof World kept)) return host(-12);
        w = kept.twin();
        laws = new ArrayList<>();
        others = new Integer[8];
        return w.size();
    }

    public int differ(int d, int task, int what) {
        if (noTape(d) || what < 0 || what > 5 || noTask(task)) throw new IllegalArgumentException();
        if (!(tapes[d] instanceof World kept)) throw new IllegalStateException();
        if (task >= kept.T) throw new IllegalArgumentException();
        return sumOf(w, task, what) - sumOf(kept, task, what);
    }

    public int toss(int d) {
        if (noTape(d)) return -1;
        if (tapes[d] == null) return host(-11);
        if (!(tapes[d] instanceof World kept)) return host(-12);
        return kept.size() == 0 ? host(-15) : kept.size();
    }

    public int play(int d, int i, int n, int processor) {
        if (noTape(d) || noProcessor(processor) || n < 0 || n > 20) return -1;
        if (tapes[d] == null) return host(-11);
        if (!(tapes[d] instanceof int[] row)) return host(-12);
        int taken = 0;
        for (int k = 0; k < n; k++) {
            int[] m = new int[4];
            for (int e = 0; e < 4; e++) {
                long place = (long) i + 5L * k + e;
                if (place < 0 || place >= row.length) return host(-13);
                m[e] = row[(int) place];
            }
            if (mark(processor, m[0], m[1], m[2], m[3]) < 0) return taken;
            taken++;
        }
        return taken;
    }

    public int clear(int d) {
        if (noTape(d)) return -1;
        int was = sortOf(tapes[d]);
        tapes[d] = null;
        return was;
    }

    public int put(int d, int i, long v) {
        if (noTape(d)) return -1;
        Object held = tapes[d];
        if (held == null) return host(-11);
        if (held instanceof World) return host(-12);
        if (i < 0 || i >= length(held)) return host(-13);
        if (held instanceof byte[] r) r[i] = (byte) v;
        if (held instanceof short[] r) r[i] = (short) v;
        if (held instanceof int[] r) r[i] = (int) v;
        if (held instanceof long[] r) r[i] = v;
        return 1;
    }

    public long at(int d, int i) {
        if (noTape(d)) throw new IllegalArgumentException();
        Object held = tapes[d];
        if (held == null || held instanceof World || i < 0 || i >= length(held)) throw new IllegalStateException();
        return java.lang.reflect.Array.getLong(held, i);
    }

    public int copy(int d, int i, int e, int j, int n) {
        if (noTape(d) || noTape(e)) return -1;
        if (tapes[d] == null || tapes[e] == null) return host(-11);
        int sort = sortOf(tapes[d]);
        if (sort == 5 || sort != sortOf(tapes[e])) return host(-12);
        if (n < 0 || i < 0 || j < 0) return host(-13);
        if ((long) i + n > length(tapes[d]) || (long) j + n > length(tapes[e])) return host(-13);
        System.arraycopy(tapes[d], i, tapes[e], j, n);
        return n;
    }

    public int count(int what) {
        if (what >= 10 && what < 10 + w.P) return w.marks.get(what - 10).size();
        int[] all = {w.P, w.T, w.W, w.size(), laws.size(), refused, host};
        return what >= 0 && what < 7 ? all[what] : -1;
    }
}
