import java.util.ArrayDeque;
import java.util.ArrayList;
import java.util.Arrays;
import java.util.List;
import java.util.TreeMap;
import java.util.TreeSet;

/**
 * The document's words done literally, for comparison: states are really held, times are really
 * replayed with what the log has, halving really asks the replayed states.
 */
final class Naive {
    static final int NONE = -1;
    static final int NO = -1000001;

    static final class Entry {
        int time, origin, number, place, sort;
    }

    static final class Call {
        int time, p, stacked;
    }

    static final class Machine {
        int[] sort = new int[40], number = new int[40], changes = new int[40];
        List<TreeSet<Integer>> steps = new ArrayList<>();
        List<TreeSet<Integer>> entries = new ArrayList<>();
        int counter, outs, check, time, end, logPos;
        List<Integer> stack = new ArrayList<>();
        boolean traced;

        Machine copy() {
            Machine m = new Machine();
            m.sort = sort.clone();
            m.number = number.clone();
            m.changes = changes.clone();
            m.counter = counter;
            m.outs = outs;
            m.check = check;
            m.time = time;
            m.end = end;
            m.logPos = logPos;
            m.stack = new ArrayList<>(stack);
            return m;
        }

        void trace() {
            traced = true;
            for (int i = 0; i < 40; i++) {
                steps.add(new TreeSet<>());
                entries.add(new TreeSet<>());
            }
        }

        boolean put(int place, int s, int n) {
            boolean other = sort[place] != s || number[place] != n;
            sort[place] = s;
            number[place] = n;
            if (other) {
                changes[place]++;
            }
            return other;
        }
    }

    static final class Run {
        int[][] program = new int[64][];
        Machine machine = new Machine();
        List<Entry> log = new ArrayList<>();
        List<Call> calls = new ArrayList<>();
        TreeMap<Integer, Machine> held = new TreeMap<>();
        int unit, depth, most = 1, replayed, backs, statusKept;
        boolean isKept;

        Run copy() {
            Run r = new Run();
            r.program = program;
            r.machine = machine.copy();
            r.log = new ArrayList<>(log);
            r.calls = new ArrayList<>(calls);
            r.held = new TreeMap<>(held);
            r.unit = unit;
            r.depth = depth;
            r.most = most;
            r.replayed = replayed;
            r.backs = backs;
            return r;
        }

        int goes(int time) {
            int k = time / unit;
            int z = 0;
            while (k % 2 == 0) {
                k /= 2;
                z++;
            }
            int two = 1;
            for (int i = 0; i < z; i++) {
                two *= 2;
            }
            return (time / unit + depth * two) * unit;
        }
    }

    final int[][] program = new int[64][];
    int unit = 8, depth = 2, x = 1, latest, asked = NONE;
    Run now;
    final List<Run> kept = new ArrayList<>();
    final ArrayDeque<Integer> waiting = new ArrayDeque<>();
    final boolean[] watchedPlaces = new boolean[40];

    boolean code(int at, int kind, int a, int b, int c) {
        if (at < 0 || at > 63) return false;
        if (kind == NONE) {
            program[at] = null;
            return true;
        }
        boolean ra = a >= 0 && a <= 7, rb = b >= 0 && b <= 7, rc = c >= 0 && c <= 7;
        boolean ok;
        if (kind == 0 || kind == 18) ok = true;
        else if (kind == 1 || kind == 19 || kind == 21 || kind == 22) ok = ra;
        else if (kind == 2) ok = ra && (b == 0 || b == 1);
        else if (kind == 3 || kind == 11 || kind == 13 || kind == 14) ok = ra && rb;
        else if (kind >= 4 && kind <= 10 || kind == 12) ok = ra && rb && rc;
        else if (kind == 15 || kind == 17) ok = a >= 0 && a <= 63;
        else if (kind == 16) ok = ra && b >= 0 && b <= 63;
        else if (kind == 20) ok = ra && b >= 1 && b <= 1000;
        else ok = false;
        if (ok) program[at] = new int[] {kind, a, b, c};
        return ok;
    }

    boolean spacing(int u, int d) {
        if (u < 1 || u > 64 || d < 1 || d > 8) return false;
        unit = u;
        depth = d;
        return true;
    }

    int begin() {
        now = new Run();
        int n = 0;
        for (int i = 0; i < 64; i++) {
            now.program[i] = program[i];
            if (program[i] != null) n++;
        }
        now.unit = unit;
        now.depth = depth;
        now.held.put(0, now.machine.copy());
        waiting.clear();
        return n;
    }

    int give(int v) {
        if (now == null || waiting.size() >= 100) return NONE;
        waiting.addLast(v);
        return waiting.size();
    }

    int seed(int v) {
        int was = x;
        x = v;
        return was;
    }

    static boolean isValue(int sort, int number) {
        return sort == 0 && number == 0 || sort == 1 && (number == 0 || number == 1) || sort == 2;
    }

    int poke(int place, int sort, int number) {
        if (now == null || place < 0 || place > 39 || !isValue(sort, number)) return NONE;
        if (now.log.size() >= 800) return NONE;
        Entry e = new Entry();
        e.time = now.machine.time;
        e.origin = 2;
        e.number = number;
        e.place = place;
        e.sort = sort;
        now.log.add(e);
        now.machine.logPos++;
        return now.machine.put(place, sort, number) ? 1 : 0;
    }

    int status(Run r) {
        if (r.isKept) return r.statusKept;
        Machine m = r.machine;
        if (m.end != 0) return m.end;
        int[] i = m.counter < 64 ? r.program[m.counter] : null;
        if (i == null) return 0;
        if (i[0] == 19 && waiting.isEmpty()) return 1;
        if ((i[0] == 19 || i[0] == 20) && r.log.size() == 800) return 3;
        return 0;
    }

    /** One step; live: what comes from outside is taken and logged, else it is read of the log. */
    int step(Run r, Machine m, boolean live) {
        int at = m.counter;
        int[] i = at < 64 ? r.program[at] : null;
        m.counter = Math.min(64, at + 1);
        int before = m.time;
        int trap = 0;
        int put = -1, ps = 0, pn = 0, entry = -1;
        int[] looked = {};
        if (i == null) {
            trap = 5;
        } else {
            int k = i[0], a = i[1], b = i[2], c = i[3];
            switch (k) {
                case 0 -> m.end = 2;
                case 1 -> { put = a; ps = 2; pn = b; }
                case 2 -> { put = a; ps = 1; pn = b; }
                case 3 -> { put = a; ps = m.sort[b]; pn = m.number[b]; looked = new int[] {b}; }
                case 4, 5, 6, 7, 8, 9 -> {
                    if (m.sort[b] != 2 || m.sort[c] != 2) trap = 1;
                    else if ((k == 7 || k == 8) && m.number[c] == 0) trap = 2;
                    else {
                        int s = m.number[b], t = m.number[c];
                        put = a;
                        ps = k == 9 ? 1 : 2;
                        pn = k == 4 ? s + t : k == 5 ? s - t : k == 6 ? s * t : k == 7 ? s / t
                            : k == 8 ? s % t : s < t ? 1 : 0;
                        looked = new int[] {b, c};
                    }
                }
                case 10 -> {
                    put = a;
                    ps = 1;
                    pn = m.sort[b] == m.sort[c] && m.number[b] == m.number[c] ? 1 : 0;
                    looked = new int[] {b, c};
                }
                case 11 -> {
                    if (m.sort[b] != 1) trap = 1;
                    else { put = a; ps = 1; pn = m.number[b] == 0 ? 1 : 0; looked = new int[] {b}; }
                }
                case 12 -> {
                    if (m.sort[b] != 1 || m.sort[c] != 1) trap = 1;
                    else {
                        put = a;
                        ps = 1;
                        pn = m.number[b] == 1 && m.number[c] == 1 ? 1 : 0;
                        looked = new int[] {b, c};
                    }
                }
                case 13 -> {
                    int n = m.number[b];
                    if (m.sort[b] != 2) trap = 1;
                    else if (n < 0 || n > 31) trap = 3;
                    else {
                        put = a;
                        ps = m.sort[8 + n];
                        pn = m.number[8 + n];
                        looked = new int[] {b, 8 + n};
                    }
                }
                case 14 -> {
                    int n = m.number[a];
                    if (m.sort[a] != 2) trap = 1;
                    else if (n < 0 || n > 31) trap = 3;
                    else {
                        put = 8 + n;
                        ps = m.sort[b];
                        pn = m.number[b];
                        looked = new int[] {a, b};
                    }
                }
                case 15 -> m.counter = a;
                case 16 -> {
                    if (m.sort[a] != 1) trap = 1;
                    else if (m.number[a] == 1) m.counter = b;
                }
                case 17 -> {
                    if (m.stack.size() == 8) trap = 4;
                    else {
                        if (live && r.calls.size() < 100) {
                            Call call = new Call();
                            call.time = before;
                            call.p = a;
                            call.stacked = m.stack.size();
                            r.calls.add(call);
                        }
                        m.stack.add(m.counter);
                        m.counter = a;
                    }
                }
                case 18 -> {
                    if (m.stack.isEmpty()) m.end = 2;
                    else m.counter = m.stack.remove(m.stack.size() - 1);
                }
                case 19, 20 -> {
                    entry = m.logPos;
                    if (live) {
                        Entry e = new Entry();
                        e.time = before;
                        e.origin = k - 19;
                        e.place = NONE;
                        e.sort = 2;
                        if (k == 19) {
                            e.number = waiting.removeFirst();
                        } else {
                            x = x * 1664525 + 1013904223;
                            e.number = (int) (((x & 0xffffffffL) >> 8) % b);
                        }
                        r.log.add(e);
                    }
                    put = a;
                    ps = 2;
                    pn = r.log.get(m.logPos).number;
                    m.logPos++;
                }
                case 21 -> {
                    m.outs++;
                    m.check = 31 * m.check + 3 * m.number[a] + m.sort[a];
                }
                case 22 -> { put = a; }
                default -> throw new IllegalStateException();
            }
        }
        m.time++;
        if (trap != 0) m.end = 10 + trap;
        if (put < 0) return -1;
        if (m.traced) {
            TreeSet<Integer> s = new TreeSet<>(), e = new TreeSet<>();
            s.add(before);
            if (entry >= 0) e.add(entry);
            for (int l : looked) {
                s.addAll(m.steps.get(l));
                e.addAll(m.entries.get(l));
            }
            m.steps.set(put, s);
            m.entries.set(put, e);
        }
        return m.put(put, ps, pn) ? put : -1;
    }

    int run(int n) {
        if (now == null || n < 1 || n > 500) return NONE;
        int done = 0;
        while (done < n && status(now) == 0 && now.machine.time < 3000) {
            int place = step(now, now.machine, true);
            done++;
            int t = now.machine.time;
            if (t % now.unit == 0) {
                for (Integer h : new ArrayList<>(now.held.keySet())) {
                    if (h > 0 && now.goes(h) == t) now.held.remove(h);
                }
                now.held.put(t, now.machine.copy());
                now.most = Math.max(now.most, now.held.size());
            }
            if (place >= 0 && watchedPlaces[place]) break;
        }
        return done;
    }

    boolean watch(int place, boolean on) {
        if (place < 0 || place > 39 || watchedPlaces[place] == on) return false;
        watchedPlaces[place] = on;
        return true;
    }

    static void pokes(Run r, Machine m) {
        while (m.logPos < r.log.size()) {
            Entry e = r.log.get(m.logPos);
            if (e.origin != 2 || e.time != m.time) break;
            m.put(e.place, e.sort, e.number);
            if (m.traced) {
                m.steps.set(e.place, new TreeSet<>());
                m.entries.set(e.place, new TreeSet<>(List.of(m.logPos)));
            }
            m.logPos++;
        }
    }

    Machine goTo(Run r, Machine from, int t) {
        Machine m = from.copy();
        pokes(r, m);
        while (m.time < t) {
            step(r, m, false);
            pokes(r, m);
        }
        return m;
    }

    void count(Run r, int n) {
        r.replayed += n;
        latest += n;
    }

    Machine replay(Run r, int t) {
        if (t == r.machine.time) return r.machine;
        int h = r.held.floorKey(t);
        count(r, t - h);
        return goTo(r, r.held.get(h), t);
    }

    int back(int t) {
        latest = 0;
        if (now == null || t < 0 || t >= now.machine.time) return NONE;
        Machine m = replay(now, t);
        now.machine = m.copy();
        List<Entry> stay = new ArrayList<>();
        List<Integer> again = new ArrayList<>();
        for (Entry e : now.log) {
            if (e.origin == 2 ? e.time <= t : e.time < t) stay.add(e);
            else if (e.origin == 0) again.add(e.number);
        }
        for (int i = again.size() - 1; i >= 0; i--) waiting.addFirst(again.get(i));
        now.log = stay;
        now.calls.removeIf(c -> c.time >= t);
        now.held.tailMap(t, false).clear();
        now.backs++;
        return latest;
    }

    int keep() {
        if (now == null || kept.size() == 4) return NONE;
        Run r = now.copy();
        r.statusKept = status(now);
        r.isKept = true;
        kept.add(r);
        return kept.size() - 1;
    }

    boolean use(int run) {
        if (run != NONE && (run < 0 || run >= kept.size())) return false;
        asked = run;
        return true;
    }

    Run of(int number) {
        if (number == NONE) return now;
        return number >= 0 && number < kept.size() ? kept.get(number) : null;
    }

    static boolean isTime(Run r, int t) {
        return r != null && t >= 0 && t <= r.machine.time;
    }

    static boolean isPlace(int place) {
        return place >= 0 && place < 40;
    }

    int at(int t, int place, int what) {
        latest = 0;
        Run r = of(asked);
        if (!isTime(r, t) || !isPlace(place) || what < 0 || what > 2) return NO;
        Machine m = replay(r, t);
        return what == 0 ? m.sort[place] : what == 1 ? m.number[place] : m.changes[place];
    }

    int state(int t, int what) {
        latest = 0;
        Run r = of(asked);
        if (!isTime(r, t) || what < 0 || what > 17 || what > 4 && what < 10) return NO;
        Machine m = replay(r, t);
        switch (what) {
            case 0: return m.counter;
            case 1: return m.stack.size();
            case 2: return m.outs;
            case 3: return m.check;
            case 4: return m.counter == 64 || r.program[m.counter] == null ? NONE : r.program[m.counter][0];
            default: return what - 10 < m.stack.size() ? m.stack.get(what - 10) : NO;
        }
    }

    int theLast(Run r, int t, int place) {
        int c = replay(r, t).changes[place];
        if (c == 0) return NONE;
        int lo = 0, hi = t;
        while (lo < hi) {
            int m = (lo + hi) / 2;
            if (replay(r, m).changes[place] == c) hi = m;
            else lo = m + 1;
        }
        return lo;
    }

    int last(int t, int place) {
        latest = 0;
        Run r = of(asked);
        return !isTime(r, t) || !isPlace(place) ? -2 : theLast(r, t, place);
    }

    int when(int t, int place, int sort, int number) {
        latest = 0;
        Run r = of(asked);
        if (!isTime(r, t) || !isPlace(place) || !isValue(sort, number)) return -2;
        int end = t;
        for (Integer h = r.held.floorKey(t); h != null; h = r.held.lowerKey(h)) {
            int found = NONE;
            Machine m = goTo(r, r.held.get(h), h);
            for (int u = h; u <= end; u++) {
                if (u > h) {
                    step(r, m, false);
                    pokes(r, m);
                }
                if (m.sort[place] == sort && m.number[place] == number) found = u;
            }
            count(r, end - h);
            if (found != NONE) return found;
            end = h - 1;
        }
        return NONE;
    }

    int changed(int t, int what) {
        latest = 0;
        Run r = of(asked);
        if (!isTime(r, t) || t == r.machine.time || what < 0 || what > 1) return NO;
        int[] c = replay(r, t).changes;
        int[] d = replay(r, t + 1).changes;
        int bits = 0;
        for (int i = what * 8; i < 8 + what * 32; i++) {
            if (c[i] != d[i]) bits |= 1 << (i - what * 8);
        }
        return bits;
    }

    int watched(int t) {
        latest = 0;
        Run r = of(asked);
        if (!isTime(r, t) || t < 1) return -2;
        int best = NONE;
        for (int i = 0; i < 40; i++) {
            if (watchedPlaces[i]) best = Math.max(best, theLast(r, t - 1, i));
        }
        return best;
    }

    Machine traced(Run r, int t) {
        Machine m = new Machine();
        m.trace();
        pokes(r, m);
        while (m.time < t) {
            step(r, m, false);
            pokes(r, m);
        }
        return m;
    }

    int rests(int t, int place, int i) {
        Run r = of(asked);
        if (!isTime(r, t) || !isPlace(place)) return -2;
        List<Integer> s = new ArrayList<>(traced(r, t).steps.get(place));
        if (i == NONE) return s.size();
        return i >= 0 && i < s.size() ? s.get(i) : NONE;
    }

    int hangs(int k, int t, int what) {
        Run r = of(asked);
        if (!isTime(r, t) || k < 0 || k >= r.log.size() || what < 0 || what > 1) return NO;
        Machine m = traced(r, t);
        int bits = 0;
        for (int i = what * 8; i < 8 + what * 32; i++) {
            if (m.entries.get(i).contains(k)) bits |= 1 << (i - what * 8);
        }
        return bits;
    }

    int history(int place, int k, int what) {
        Run r = of(asked);
        if (r == null || !isPlace(place) || what < 0 || what > 2) return NO;
        Machine m = new Machine();
        pokes(r, m);
        List<int[]> rows = new ArrayList<>();
        int was = 0;
        while (true) {
            if (m.changes[place] != was) rows.add(new int[] {m.time, m.sort[place], m.number[place]});
            was = m.changes[place];
            if (m.time == r.machine.time) break;
            step(r, m, false);
            pokes(r, m);
        }
        if (k == NONE) return rows.size();
        return k >= 0 && k < rows.size() ? rows.get(k)[what] : NO;
    }

    int done(int t, int at) {
        Run r = of(asked);
        if (!isTime(r, t) || at < 0 || at > 64) return -2;
        Machine m = new Machine();
        pokes(r, m);
        int n = 0;
        while (m.time < t) {
            if (m.counter == at) n++;
            step(r, m, false);
            pokes(r, m);
        }
        return n;
    }

    int call(int k, int what) {
        Run r = of(asked);
        if (r == null || what < 0 || what > 2) return NONE;
        if (k == NONE) return r.calls.size();
        if (k < 0 || k >= r.calls.size()) return NONE;
        Call c = r.calls.get(k);
        return what == 0 ? c.time : what == 1 ? c.p : c.stacked;
    }

    int log(int k, int what) {
        Run r = of(asked);
        if (r == null || what < 0 || what > 4) return NO;
        if (k == NONE) return r.log.size();
        if (k < 0 || k >= r.log.size()) return NO;
        Entry e = r.log.get(k);
        return new int[] {e.time, e.origin, e.number, e.place, e.sort}[what];
    }

    int held(int k, int what) {
        Run r = of(asked);
        if (r == null || what < 0 || what > 1) return NONE;
        if (k == NONE) return r.held.size();
        if (k < 0 || k >= r.held.size()) return NONE;
        int t = new ArrayList<>(r.held.keySet()).get(k);
        return what == 0 ? t : t == 0 ? NONE : r.goes(t);
    }

    static TreeSet<Integer> wouldHold(int unit, int depth, int t) {
        Run r = new Run();
        r.unit = unit;
        r.depth = depth;
        TreeSet<Integer> h = new TreeSet<>(List.of(0));
        for (int u = unit; u <= t; u += unit) {
            final int come = u;
            h.removeIf(v -> v > 0 && r.goes(v) == come);
            h.add(u);
        }
        return h;
    }

    static boolean isSpacing(int unit, int depth, int t) {
        return unit >= 1 && unit <= 64 && depth >= 1 && depth <= 8 && t >= 0 && t <= 3000;
    }

    int would(int unit, int depth, int t) {
        return isSpacing(unit, depth, t) ? wouldHold(unit, depth, t).size() : NONE;
    }

    int gap(int unit, int depth, int t) {
        if (!isSpacing(unit, depth, t)) return NONE;
        TreeSet<Integer> h = wouldHold(unit, depth, t);
        int most = 0;
        for (int u = 0; u <= t; u++) most = Math.max(most, u - h.floor(u));
        return most;
    }

    int sparing(int depth, int t, int many) {
        if (!isSpacing(1, depth, t)) return NONE;
        for (int u = 1; u <= 64; u++) {
            if (wouldHold(u, depth, t).size() <= many) return u;
        }
        return NONE;
    }

    /** Of two rows the longer, or the one whose pairs are first. */
    static List<int[]> better(List<int[]> a, List<int[]> b) {
        if (a.size() != b.size()) return a.size() > b.size() ? a : b;
        for (int i = 0; i < a.size(); i++) {
            int c = Arrays.compare(a.get(i), b.get(i));
            if (c != 0) return c < 0 ? a : b;
        }
        return a;
    }

    static List<int[]> pairs(Run one, Run other) {
        int n = one.calls.size(), m = other.calls.size();
        List<List<int[]>> below = new ArrayList<>();
        for (int j = 0; j <= m; j++) below.add(new ArrayList<>());
        for (int i = n - 1; i >= 0; i--) {
            List<List<int[]>> row = new ArrayList<>(below);
            row.set(m, new ArrayList<>());
            for (int j = m - 1; j >= 0; j--) {
                List<int[]> best = better(below.get(j), row.get(j + 1));
                Call c = one.calls.get(i), d = other.calls.get(j);
                if (c.p == d.p && c.stacked == d.stacked) {
                    List<int[]> with = new ArrayList<>();
                    with.add(new int[] {i, j});
                    with.addAll(below.get(j + 1));
                    best = better(best, with);
                }
                row.set(j, best);
            }
            below = row;
        }
        return below.get(0);
    }

    int align(int one, int other) {
        Run a = of(one), b = of(other);
        return a == null || b == null ? -2 : pairs(a, b).size();
    }

    int pair(int one, int other, int i, int what) {
        latest = 0;
        Run a = of(one), b = of(other);
        if (a == null || b == null || what < 0 || what > 3) return NO;
        List<int[]> rows = pairs(a, b);
        if (i < 0 || i >= rows.size()) return NO;
        if (what < 2) return rows.get(i)[what];
        Machine m = replay(a, a.calls.get(rows.get(i)[0]).time);
        Machine n = replay(b, b.calls.get(rows.get(i)[1]).time);
        int bits = 0;
        int w = what - 2;
        for (int p = w * 8; p < 8 + w * 32; p++) {
            if (m.sort[p] != n.sort[p] || m.number[p] != n.number[p]) bits |= 1 << (p - w * 8);
        }
        return bits;
    }

    int parts(int one, int other) {
        Run a = of(one), b = of(other);
        if (a == null || b == null) return -2;
        Machine m = new Machine(), n = new Machine();
        pokes(a, m);
        pokes(b, n);
        while (true) {
            if (!Arrays.equals(m.sort, n.sort) || !Arrays.equals(m.number, n.number)
                || m.counter != n.counter || !m.stack.equals(n.stack)) return m.time;
            if (m.time == a.machine.time || m.time == b.machine.time) return NONE;
            step(a, m, false);
            pokes(a, m);
            step(b, n, false);
            pokes(b, n);
        }
    }

    int look(int what) {
        Run r = of(asked);
        if (what >= 0 && what <= 6 && r == null) return 0;
        switch (what) {
            case 0: return r.machine.time;
            case 1: return status(r);
            case 2: return r.replayed;
            case 3: return r.most;
            case 4: return r.unit;
            case 5: return r.depth;
            case 6: return r.backs;
            case 7: return kept.size();
            case 8: return waiting.size();
            case 9: return x;
            case 10: return latest;
            case 11:
            case 12: {
                int bits = 0;
                int w = what - 11;
                for (int p = w * 8; p < 8 + w * 32; p++) {
                    if (watchedPlaces[p]) bits |= 1 << (p - w * 8);
                }
                return bits;
            }
            default: return NO;
        }
    }
}
