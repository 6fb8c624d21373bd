import java.util.Arrays;

/**
 * A recorder of runs that goes back.
 *
 * Nothing is ever really replayed: every value that was put to a place is written down once, so
 * that each state that was can be read. What a replay would have cost is counted from the times
 * that are held, as the document asks.
 */
public final class RunsBack {
    public static final int NONE = -1;

    private static final int REFUSED = NONE - 1000000;
    private static final int NO_SUCH = -2;

    private static final int REGISTERS = 8;
    private static final int CELLS = 32;
    private static final int PLACES = REGISTERS + CELLS;

    private static final int NOTHING = 0;
    private static final int FLAG = 1;
    private static final int WHOLE = 2;

    private static final int INSTRUCTIONS = 64;
    private static final int STACK_MOST = 8;
    private static final int TIME_MOST = 3000;
    private static final int LOG_MOST = 800;
    private static final int CALLS_MOST = 100;
    private static final int KEPT_MOST = 4;
    private static final int STEPS_MOST = 500;
    private static final int UNIT_MOST = 64;
    private static final int DEPTH_MOST = 8;
    private static final int WAITING_MOST = 100;
    private static final int DRAW_MOST = 1000;

    /** Inputs that go back to wait come from a full log at most, on top of those that waited. */
    private static final int WAITING_ROOM = LOG_MOST + WAITING_MOST;
    /** A step and a poke each put one value at most. */
    private static final int PUTS_MOST = TIME_MOST + LOG_MOST;
    /** The first one, and of each of 12 powers of two half as many as the greatest depth. */
    private static final int HELD_ROOM = 64;

    private static final int INPUT = 0;
    private static final int DRAW = 1;
    private static final int POKE = 2;

    private static final int GOING = 0;
    private static final int WAITS = 1;
    private static final int OVER = 2;
    private static final int LOG_FULL = 3;
    private static final int TRAPPED = 10;

    private static final int NO_TRAP = 0;
    private static final int TRAP_SORT = 1;
    private static final int TRAP_ZERO = 2;
    private static final int TRAP_CELL = 3;
    private static final int TRAP_STACK = 4;
    private static final int TRAP_NO_INSTRUCTION = 5;

    private static final int KIND_OVER = 0;
    private static final int KIND_WHOLE = 1;
    private static final int KIND_FLAG = 2;
    private static final int KIND_COPY = 3;
    private static final int KIND_PLUS = 4;
    private static final int KIND_MINUS = 5;
    private static final int KIND_TIMES = 6;
    private static final int KIND_QUOTIENT = 7;
    private static final int KIND_REST = 8;
    private static final int KIND_BELOW = 9;
    private static final int KIND_SAME = 10;
    private static final int KIND_NOT = 11;
    private static final int KIND_AND = 12;
    private static final int KIND_FROM_CELL = 13;
    private static final int KIND_TO_CELL = 14;
    private static final int KIND_JUMP = 15;
    private static final int KIND_JUMP_IF = 16;
    private static final int KIND_CALL = 17;
    private static final int KIND_RETURN = 18;
    private static final int KIND_INPUT = 19;
    private static final int KIND_DRAW = 20;
    private static final int KIND_OUT = 21;
    private static final int KIND_NOTHING = 22;

    private static final int ASKS_NOTHING = 0;
    private static final int ASKS_REGISTER = 1;
    private static final int ASKS_INSTRUCTION = 2;
    private static final int ASKS_FLAG = 3;
    private static final int ASKS_DRAW = 4;

    /** What each kind of instruction asks of its a, b and c. */
    private static final int[] ASKS_OF_A =
        {0, 1, 1, 1, 1, 1, 1, 1, 1, 1, 1, 1, 1, 1, 1, 2, 1, 2, 0, 1, 1, 1, 1};
    private static final int[] ASKS_OF_B =
        {0, 0, 3, 1, 1, 1, 1, 1, 1, 1, 1, 1, 1, 1, 1, 0, 2, 0, 0, 0, 4, 0, 0};
    private static final int[] ASKS_OF_C =
        {0, 0, 0, 0, 1, 1, 1, 1, 1, 1, 1, 0, 1, 0, 0, 0, 0, 0, 0, 0, 0, 0, 0};

    private final Program program = new Program();
    private final Outside outside = new Outside();
    private final Beside beside = new Beside();
    private final boolean[] marks = new boolean[PUTS_MOST];
    /** All rows of all runs are made with the object, as its room is counted: no call makes any. */
    private final Run roomOfNow = new Run();
    private final Run[] roomsOfKept = new Run[KEPT_MOST];
    private int keptCount = 0;
    /** The run that is now; null as long as none has begun. */
    private Run now = null;
    private int askedNumber = NONE;
    private int unitToCome = 8;
    private int depthToCome = 2;
    private int watchedRegisters = 0;
    private int watchedCells = 0;
    private int latestReplayed = 0;

    public RunsBack() {
        for (int i = 0; i < KEPT_MOST; i++) {
            roomsOfKept[i] = new Run();
        }
    }

    // ---- the program, and the run that is now ----

    public boolean code(int at, int kind, int a, int b, int c) {
        if (!isInstructionPlace(at)) {
            return false;
        }
        if (kind != NONE && !isInstruction(kind, a, b, c)) {
            return false;
        }
        program.write(at, kind, a, b, c);
        return true;
    }

    public boolean spacing(int unit, int depth) {
        if (!isUnit(unit) || !isDepth(depth)) {
            return false;
        }
        unitToCome = unit;
        depthToCome = depth;
        return true;
    }

    public int begin() {
        now = roomOfNow;
        now.start(program, unitToCome, depthToCome);
        outside.clearInputs();
        return program.size();
    }

    public int give(int v) {
        if (now == null || outside.waiting >= WAITING_MOST) {
            return NONE;
        }
        outside.addLast(v);
        return outside.waiting;
    }

    public int seed(int v) {
        int was = outside.x;
        outside.x = v;
        return was;
    }

    public int poke(int place, int sort, int number) {
        if (now == null || now.log.isFull() || !isPlace(place) || !isValue(sort, number)) {
            return NONE;
        }
        return now.putByPoke(place, sort, number) ? 1 : 0;
    }

    public int run(int n) {
        if (now == null || n < 1 || n > STEPS_MOST) {
            return NONE;
        }
        int steps = 0;
        boolean on = true;
        while (on && steps < n && now.canStep(outside)) {
            now.step(outside);
            steps++;
            on = !isWatched(now.changedPlace);
        }
        return steps;
    }

    public boolean watch(int place, boolean on) {
        if (!isPlace(place) || isWatched(place) == on) {
            return false;
        }
        if (place < REGISTERS) {
            watchedRegisters ^= 1 << place;
        } else {
            watchedCells ^= 1 << (place - REGISTERS);
        }
        return true;
    }

    public int back(int t) {
        latestReplayed = 0;
        if (now == null || t < 0 || t >= now.time) {
            return NONE;
        }
        replay(now, t);
        now.goBack(t, outside);
        return latestReplayed;
    }

    public int keep() {
        Run room = roomOfKept(keptCount);
        if (now == null || room == null) {
            return NONE;
        }
        room.takeFrom(now, now.statusWith(outside));
        keptCount++;
        return keptCount - 1;
    }

    public boolean use(int run) {
        if (run != NONE && !isKept(run)) {
            return false;
        }
        askedNumber = run;
        return true;
    }

    // ---- what is replayed of the run asked ----

    public int at(int t, int place, int what) {
        latestReplayed = 0;
        Run r = numbered(askedNumber);
        if (r == null || !r.hasTime(t) || !isPlace(place) || what < 0 || what > 2) {
            return REFUSED;
        }
        replay(r, t);
        int put = r.puts.putBy(t, place);
        switch (what) {
            case 0:
                return r.puts.sortOf(put);
            case 1:
                return r.puts.numberOf(put);
            default:
                return r.puts.changesOf(put);
        }
    }

    public int state(int t, int what) {
        latestReplayed = 0;
        Run r = numbered(askedNumber);
        if (r == null || !r.hasTime(t) || !isStateWhat(what)) {
            return REFUSED;
        }
        replay(r, t);
        switch (what) {
            case 0:
                return r.counterAt(t);
            case 1:
                return r.stackSizeAt(t);
            case 2:
                return r.outsAt(t);
            case 3:
                return r.checkAt(t);
            case 4:
                return r.program.kindAt(r.counterAt(t));
            default:
                return r.stackedAt(t, what - 10);
        }
    }

    public int last(int t, int place) {
        latestReplayed = 0;
        Run r = numbered(askedNumber);
        if (r == null || !r.hasTime(t) || !isPlace(place)) {
            return NO_SUCH;
        }
        return lastChange(r, t, place);
    }

    public int when(int t, int place, int sort, int number) {
        latestReplayed = 0;
        Run r = numbered(askedNumber);
        if (r == null || !r.hasTime(t) || !isPlace(place) || !isValue(sort, number)) {
            return NO_SUCH;
        }
        int had = r.puts.hadBy(t, place, sort, number);
        count(r, r.holding.stepsToFind(had, t));
        return had;
    }

    public int changed(int t, int what) {
        latestReplayed = 0;
        Run r = numbered(askedNumber);
        if (r == null || t < 0 || t >= r.time || !isPlacesWhat(what)) {
            return REFUSED;
        }
        replay(r, t);
        replay(r, t + 1);
        int bits = 0;
        for (int i = 0; i < placesOf(what); i++) {
            int place = firstPlaceOf(what) + i;
            int ahead = r.puts.changesOf(r.puts.putBy(t, place));
            int behind = r.puts.changesOf(r.puts.putBy(t + 1, place));
            if (ahead != behind) {
                bits |= 1 << i;
            }
        }
        return bits;
    }

    public int watched(int t) {
        latestReplayed = 0;
        Run r = numbered(askedNumber);
        if (r == null || t < 1 || t > r.time) {
            return NO_SUCH;
        }
        int latest = NONE;
        for (int place = 0; place < PLACES; place++) {
            if (isWatched(place)) {
                latest = Math.max(latest, lastChange(r, t - 1, place));
            }
        }
        return latest;
    }

    // ---- what is read of the run asked, and nothing is counted ----

    public int rests(int t, int place, int i) {
        Run r = numbered(askedNumber);
        if (r == null || !r.hasTime(t) || !isPlace(place)) {
            return NO_SUCH;
        }
        r.puts.markAllBelow(r.puts.putBy(t, place), marks);
        return r.puts.markedStep(i, marks);
    }

    public int hangs(int k, int t, int what) {
        Run r = numbered(askedNumber);
        if (r == null || !r.log.has(k) || !r.hasTime(t) || !isPlacesWhat(what)) {
            return REFUSED;
        }
        r.puts.markAllAbove(k, marks);
        int bits = 0;
        for (int i = 0; i < placesOf(what); i++) {
            if (isMarked(marks, r.puts.putBy(t, firstPlaceOf(what) + i))) {
                bits |= 1 << i;
            }
        }
        return bits;
    }

    public int history(int place, int k, int what) {
        Run r = numbered(askedNumber);
        if (r == null || !isPlace(place) || what < 0 || what > 2) {
            return REFUSED;
        }
        if (k == NONE) {
            return r.puts.changeTimes(place, NONE);
        }
        int t = k < 0 ? NONE : r.puts.changeTimes(place, k);
        if (t == NONE) {
            return REFUSED;
        }
        int put = r.puts.putBy(t, place);
        switch (what) {
            case 0:
                return t;
            case 1:
                return r.puts.sortOf(put);
            default:
                return r.puts.numberOf(put);
        }
    }

    public int done(int t, int at) {
        Run r = numbered(askedNumber);
        if (r == null || !r.hasTime(t) || at < 0 || at > INSTRUCTIONS) {
            return NO_SUCH;
        }
        int steps = 0;
        for (int began = 0; began < t; began++) {
            if (r.counterAt(began) == at) {
                steps++;
            }
        }
        return steps;
    }

    public int call(int k, int what) {
        Run r = numbered(askedNumber);
        if (r == null || what < 0 || what > 2) {
            return NONE;
        }
        return k == NONE ? r.calls.count : r.calls.read(k, what);
    }

    public int log(int k, int what) {
        Run r = numbered(askedNumber);
        if (r == null || what < 0 || what > 4) {
            return REFUSED;
        }
        return k == NONE ? r.log.count : r.log.read(k, what);
    }

    public int held(int k, int what) {
        Run r = numbered(askedNumber);
        if (r == null || what < 0 || what > 1) {
            return NONE;
        }
        if (k == NONE) {
            return r.holding.count;
        }
        return what == 0 ? r.holding.timeOf(k) : r.holding.goesAt(k);
    }

    // ---- what units and depths would do ----

    public int would(int unit, int depth, int t) {
        if (!isUnit(unit) || !isDepth(depth) || !isAnyTime(t)) {
            return NONE;
        }
        return wouldBeHeld(unit, depth, t);
    }

    public int gap(int unit, int depth, int t) {
        if (!isUnit(unit) || !isDepth(depth) || !isAnyTime(t)) {
            return NONE;
        }
        int units = t / unit;
        int widest = 0;
        int ahead = 0;
        for (int k = 1; k <= units; k++) {
            if (Holding.isHeldStill(k, depth, units)) {
                widest = Math.max(widest, k * unit - 1 - ahead);
                ahead = k * unit;
            }
        }
        return Math.max(widest, t - ahead);
    }

    public int sparing(int depth, int t, int many) {
        if (!isDepth(depth) || !isAnyTime(t)) {
            return NONE;
        }
        for (int unit = 1; unit <= UNIT_MOST; unit++) {
            if (wouldBeHeld(unit, depth, t) <= many) {
                return unit;
            }
        }
        return NONE;
    }

    // ---- two runs beside each other ----

    public int align(int one, int other) {
        Run first = numbered(one);
        Run second = numbered(other);
        if (first == null || second == null) {
            return NO_SUCH;
        }
        beside.lay(first.calls, second.calls);
        return beside.pairs;
    }

    public int pair(int one, int other, int i, int what) {
        latestReplayed = 0;
        Run first = numbered(one);
        Run second = numbered(other);
        if (first == null || second == null || what < 0 || what > 3) {
            return REFUSED;
        }
        beside.lay(first.calls, second.calls);
        if (!beside.has(i)) {
            return REFUSED;
        }
        if (what == 0) {
            return beside.callOfOne(i);
        }
        if (what == 1) {
            return beside.callOfOther(i);
        }
        int t = first.calls.read(beside.callOfOne(i), 0);
        int u = second.calls.read(beside.callOfOther(i), 0);
        replay(first, t);
        replay(second, u);
        return unlike(first.puts, t, second.puts, u, what - 2);
    }

    public int parts(int one, int other) {
        Run first = numbered(one);
        Run second = numbered(other);
        if (first == null || second == null) {
            return NO_SUCH;
        }
        return beside.firstUnlike(first, second);
    }

    public int look(int what) {
        if (what >= 0 && what <= 6) {
            return lookAtRun(numbered(askedNumber), what);
        }
        switch (what) {
            case 7:
                return keptCount;
            case 8:
                return outside.waiting;
            case 9:
                return outside.x;
            case 10:
                return latestReplayed;
            case 11:
                return watchedRegisters;
            case 12:
                return watchedCells;
            default:
                return REFUSED;
        }
    }

    // ---- helpers of the calls ----

    private int lookAtRun(Run r, int what) {
        if (r == null) {
            return 0;
        }
        switch (what) {
            case 0:
                return r.time;
            case 1:
                return isKept(askedNumber) ? r.statusKept : r.statusWith(outside);
            case 2:
                return r.replayed;
            case 3:
                return r.holding.most;
            case 4:
                return r.holding.unit;
            case 5:
                return r.holding.depth;
            default:
                return r.backs;
        }
    }

    private boolean isKept(int number) {
        return number >= 0 && number < keptCount && number < KEPT_MOST;
    }

    /** Also one in which no run is kept so far; null if there is no room of that number. */
    private Run roomOfKept(int number) {
        return number >= 0 && number < KEPT_MOST ? roomsOfKept[number] : null;
    }

    /** A kept run by its number, the one that is now by NONE; null if there is none such. */
    private Run numbered(int number) {
        if (number == NONE) {
            return now;
        }
        return isKept(number) ? roomOfKept(number) : null;
    }

    private boolean isWatched(int place) {
        if (!isPlace(place)) {
            return false;
        }
        if (place < REGISTERS) {
            return (watchedRegisters >> place & 1) == 1;
        }
        return (watchedCells >> (place - REGISTERS) & 1) == 1;
    }

    private void replay(Run r, int t) {
        count(r, t == r.time ? 0 : t - r.holding.latestBy(t));
    }

    private void count(Run r, int steps) {
        r.replayed += steps;
        latestReplayed += steps;
    }

    /** The halving; changes never become fewer, so a time has all of them from the last one on. */
    private int lastChange(Run r, int t, int place) {
        replay(r, t);
        int put = r.puts.putBy(t, place);
        if (r.puts.changesOf(put) == 0) {
            return NONE;
        }
        int since = r.puts.changedSince(put);
        int lo = 0;
        int hi = t;
        while (lo < hi) {
            int m = (lo + hi) / 2;
            replay(r, m);
            if (m >= since) {
                hi = m;
            } else {
                lo = m + 1;
            }
        }
        return lo;
    }

    private static int unlike(Puts one, int t, Puts other, int u, int what) {
        int bits = 0;
        for (int i = 0; i < placesOf(what); i++) {
            int place = firstPlaceOf(what) + i;
            int put = other.putBy(u, place);
            if (!one.hasValue(one.putBy(t, place), other.sortOf(put), other.numberOf(put))) {
                bits |= 1 << i;
            }
        }
        return bits;
    }

    private static int wouldBeHeld(int unit, int depth, int t) {
        if (unit < 1) {
            return 0;
        }
        int units = t / unit;
        int many = 1;
        for (int k = 1; k <= units; k++) {
            if (Holding.isHeldStill(k, depth, units)) {
                many++;
            }
        }
        return many;
    }

    private static boolean isPlace(int place) {
        return place >= 0 && place < PLACES;
    }

    private static boolean isInstructionPlace(int at) {
        return at >= 0 && at < INSTRUCTIONS;
    }

    private static boolean isUnit(int unit) {
        return unit >= 1 && unit <= UNIT_MOST;
    }

    private static boolean isDepth(int depth) {
        return depth >= 1 && depth <= DEPTH_MOST;
    }

    private static boolean isAnyTime(int t) {
        return t >= 0 && t <= TIME_MOST;
    }

    private static boolean isStateWhat(int what) {
        return what >= 0 && what <= 4 || what >= 10 && what < 10 + STACK_MOST;
    }

    private static boolean isPlacesWhat(int what) {
        return what == 0 || what == 1;
    }

    private static int firstPlaceOf(int what) {
        return what == 0 ? 0 : REGISTERS;
    }

    private static int placesOf(int what) {
        return what == 0 ? REGISTERS : CELLS;
    }

    private static void copyRow(int[] from, int[] to, int many) {
        int all = Math.min(many, Math.min(from.length, to.length));
        if (all > 0) {
            System.arraycopy(from, 0, to, 0, all);
        }
    }

    private static boolean isMarked(boolean[] marks, int i) {
        return i >= 0 && i < marks.length && marks[i];
    }

    private static boolean isValue(int sort, int number) {
        switch (sort) {
            case NOTHING:
                return number == 0;
            case FLAG:
                return number == 0 || number == 1;
            default:
                return sort == WHOLE;
        }
    }

    private static boolean isInstruction(int kind, int a, int b, int c) {
        if (kind < 0 || kind >= ASKS_OF_A.length || kind >= ASKS_OF_B.length
                || kind >= ASKS_OF_C.length) {
            return false;
        }
        return fits(ASKS_OF_A[kind], a) && fits(ASKS_OF_B[kind], b) && fits(ASKS_OF_C[kind], c);
    }

    private static boolean fits(int asks, int n) {
        switch (asks) {
            case ASKS_REGISTER:
                return n >= 0 && n < REGISTERS;
            case ASKS_INSTRUCTION:
                return isInstructionPlace(n);
            case ASKS_FLAG:
                return n == 0 || n == 1;
            case ASKS_DRAW:
                return n >= 1 && n <= DRAW_MOST;
            default:
                return asks == ASKS_NOTHING;
        }
    }

    /** The instructions at their places. */
    private static final class Program {
        private final int[] kind = new int[INSTRUCTIONS];
        private final int[] a = new int[INSTRUCTIONS];
        private final int[] b = new int[INSTRUCTIONS];
        private final int[] c = new int[INSTRUCTIONS];

        Program() {
            Arrays.fill(kind, NONE);
        }

        void write(int at, int newKind, int newA, int newB, int newC) {
            if (isInstructionPlace(at)) {
                kind[at] = newKind;
                a[at] = newA;
                b[at] = newB;
                c[at] = newC;
            }
        }

        void takeFrom(Program other) {
            for (int i = 0; i < INSTRUCTIONS; i++) {
                write(i, other.kind[i], other.a[i], other.b[i], other.c[i]);
            }
        }

        int size() {
            int many = 0;
            for (int i = 0; i < INSTRUCTIONS; i++) {
                if (kind[i] != NONE) {
                    many++;
                }
            }
            return many;
        }

        int kindAt(int at) {
            return isInstructionPlace(at) ? kind[at] : NONE;
        }

        int firstAt(int at) {
            return isInstructionPlace(at) ? a[at] : 0;
        }

        int secondAt(int at) {
            return isInstructionPlace(at) ? b[at] : 0;
        }

        int thirdAt(int at) {
            return isInstructionPlace(at) ? c[at] : 0;
        }
    }

    /** What comes from outside: the inputs that wait (a ring), and X. Neither is a run's. */
    private static final class Outside {
        private final int[] ring = new int[WAITING_ROOM];
        private int first = 0;
        int waiting = 0;
        int x = 1;

        void clearInputs() {
            first = 0;
            waiting = 0;
        }

        void addLast(int v) {
            if (waiting < WAITING_ROOM) {
                ring[(first + waiting) % WAITING_ROOM] = v;
                waiting++;
            }
        }

        void addFirst(int v) {
            if (waiting < WAITING_ROOM) {
                first = (first + WAITING_ROOM - 1) % WAITING_ROOM;
                ring[first] = v;
                waiting++;
            }
        }

        int takeFirst() {
            if (waiting <= 0) {
                return 0;
            }
            int v = ring[first];
            first = (first + 1) % WAITING_ROOM;
            waiting--;
            return v;
        }

        int draw(int n) {
            x = 1664525 * x + 1013904223;
            return n < 1 ? 0 : (x >>> 8) % n;
        }
    }

    /** What came to a run from outside, as it came. */
    private static final class Log {
        private final int[] time = new int[LOG_MOST];
        private final int[] origin = new int[LOG_MOST];
        private final int[] number = new int[LOG_MOST];
        private final int[] place = new int[LOG_MOST];
        private final int[] sort = new int[LOG_MOST];
        int count = 0;

        void takeFrom(Log other) {
            count = other.count;
            copyRow(other.time, time, count);
            copyRow(other.origin, origin, count);
            copyRow(other.number, number, count);
            copyRow(other.place, place, count);
            copyRow(other.sort, sort, count);
        }

        boolean has(int k) {
            return k >= 0 && k < count && k < LOG_MOST;
        }

        boolean isFull() {
            return count >= LOG_MOST;
        }

        void addWhole(int t, int newOrigin, int newNumber) {
            add(t, newOrigin, NONE, WHOLE, newNumber);
        }

        void addPoke(int t, int newPlace, int newSort, int newNumber) {
            add(t, POKE, newPlace, newSort, newNumber);
        }

        private void add(int t, int newOrigin, int newPlace, int newSort, int newNumber) {
            if (count >= 0 && count < LOG_MOST) {
                time[count] = t;
                origin[count] = newOrigin;
                place[count] = newPlace;
                sort[count] = newSort;
                number[count] = newNumber;
                count++;
            }
        }

        int read(int k, int what) {
            if (!has(k)) {
                return REFUSED;
            }
            switch (what) {
                case 0:
                    return time[k];
                case 1:
                    return origin[k];
                case 2:
                    return number[k];
                case 3:
                    return place[k];
                case 4:
                    return sort[k];
                default:
                    return REFUSED;
            }
        }

        /** From the latest on, so that the inputs come to wait in their order. */
        void dropBehind(int t, Outside outside) {
            for (int k = count - 1; k >= 0 && isBehind(k, t); k--) {
                if (origin[k] == INPUT) {
                    outside.addFirst(number[k]);
                }
                count = k;
            }
        }

        /** A poke of t belongs to the state of t; a step that began at t doesn't. */
        private boolean isBehind(int k, int t) {
            return has(k) && (origin[k] == POKE ? time[k] > t : time[k] >= t);
        }
    }

    /** The first calls of a run. */
    private static final class Calls {
        private final int[] time = new int[CALLS_MOST];
        private final int[] target = new int[CALLS_MOST];
        private final int[] stacked = new int[CALLS_MOST];
        int count = 0;

        void takeFrom(Calls other) {
            count = other.count;
            copyRow(other.time, time, count);
            copyRow(other.target, target, count);
            copyRow(other.stacked, stacked, count);
        }

        private boolean has(int k) {
            return k >= 0 && k < count && k < CALLS_MOST;
        }

        void add(int t, int p, int ahead) {
            if (count >= 0 && count < CALLS_MOST) {
                time[count] = t;
                target[count] = p;
                stacked[count] = ahead;
                count++;
            }
        }

        int read(int k, int what) {
            if (!has(k)) {
                return NONE;
            }
            switch (what) {
                case 0:
                    return time[k];
                case 1:
                    return target[k];
                case 2:
                    return stacked[k];
                default:
                    return NONE;
            }
        }

        void dropFrom(int t) {
            for (int k = count - 1; k >= 0 && has(k) && time[k] >= t; k--) {
                count = k;
            }
        }

        boolean isLike(int k, Calls other, int l) {
            return has(k) && other.has(l) && target[k] == other.target[l]
                && stacked[k] == other.stacked[l];
        }
    }

    /** The times whose states are held, rising. */
    private static final class Holding {
        private final int[] times = new int[HELD_ROOM];
        int count = 0;
        int most = 0;
        int unit = 1;
        int depth = 1;

        void takeFrom(Holding other) {
            count = other.count;
            copyRow(other.times, times, count);
            most = other.most;
            unit = other.unit;
            depth = other.depth;
        }

        void start(int newUnit, int newDepth) {
            unit = newUnit;
            depth = newDepth;
            times[0] = 0;
            count = 1;
            most = 1;
        }

        /** The number at whose coming k goes; k with its lowest bit alone is 2 to the z. */
        private static int goesWith(int k, int depth) {
            return k + depth * (k & -k);
        }

        static boolean isHeldStill(int k, int depth, int units) {
            return goesWith(k, depth) > units;
        }

        private boolean has(int i) {
            return i >= 0 && i < count && i < HELD_ROOM;
        }

        int timeOf(int i) {
            return has(i) ? times[i] : NONE;
        }

        int goesAt(int i) {
            if (!has(i) || times[i] == 0 || unit < 1) {
                return NONE;
            }
            return goesWith(times[i] / unit, depth) * unit;
        }

        void timeComes(int t) {
            if (unit < 1 || t % unit != 0) {
                return;
            }
            dropWhatGoesBy(t);
            if (count >= 0 && count < HELD_ROOM) {
                times[count] = t;
                count++;
            }
            most = Math.max(most, count);
        }

        private void dropWhatGoesBy(int t) {
            int stay = 0;
            for (int i = 0; i < count && i < HELD_ROOM; i++) {
                int goes = goesAt(i);
                if (goes == NONE || goes > t) {
                    times[stay] = times[i];
                    stay++;
                }
            }
            count = stay;
        }

        void dropAbove(int t) {
            for (int i = count - 1; i >= 0 && timeOf(i) > t; i--) {
                count = i;
            }
        }

        int latestBy(int t) {
            int latest = 0;
            for (int i = 0; i < count && timeOf(i) <= t; i++) {
                latest = timeOf(i);
            }
            return latest;
        }

        /** Steps gone through from t down to the held time that lies at or ahead of had. */
        int stepsToFind(int had, int t) {
            int steps = 0;
            int upTo = t;
            for (int i = count - 1; i >= 0 && upTo >= had; i--) {
                if (timeOf(i) <= upTo) {
                    steps += upTo - timeOf(i);
                    upTo = timeOf(i) - 1;
                }
            }
            return steps;
        }
    }

    /**
     * Every value that was put to a place, by steps and pokes, as they came; each knows the one
     * put ahead of it to the same place, and those that its step looked at.
     */
    private static final class Puts {
        /** The time of the first state that it is part of. */
        private final int[] time = new int[PUTS_MOST];
        private final int[] place = new int[PUTS_MOST];
        private final int[] sort = new int[PUTS_MOST];
        private final int[] number = new int[PUTS_MOST];
        private final int[] changes = new int[PUTS_MOST];
        private final int[] ahead = new int[PUTS_MOST];
        /** When its step began; NONE of a poke. */
        private final int[] began = new int[PUTS_MOST];
        private final int[] entry = new int[PUTS_MOST];
        private final int[] lookedOne = new int[PUTS_MOST];
        private final int[] lookedTwo = new int[PUTS_MOST];
        private final int[] latest = new int[PLACES];
        int count = 0;

        Puts() {
            Arrays.fill(latest, NONE);
        }

        void takeFrom(Puts other) {
            count = other.count;
            copyRow(other.time, time, count);
            copyRow(other.place, place, count);
            copyRow(other.sort, sort, count);
            copyRow(other.number, number, count);
            copyRow(other.changes, changes, count);
            copyRow(other.ahead, ahead, count);
            copyRow(other.began, began, count);
            copyRow(other.entry, entry, count);
            copyRow(other.lookedOne, lookedOne, count);
            copyRow(other.lookedTwo, lookedTwo, count);
            copyRow(other.latest, latest, PLACES);
        }

        void clear() {
            count = 0;
            Arrays.fill(latest, NONE);
        }

        private boolean has(int n) {
            return n >= 0 && n < count && n < PUTS_MOST;
        }

        int timeOf(int n) {
            return has(n) ? time[n] : 0;
        }

        int placeOf(int n) {
            return has(n) ? place[n] : NONE;
        }

        /** Here and in numberOf() has(n) is written out, so that a step's calls stay eight deep. */
        int sortOf(int n) {
            return n >= 0 && n < count && n < PUTS_MOST ? sort[n] : NOTHING;
        }

        int numberOf(int n) {
            return n >= 0 && n < count && n < PUTS_MOST ? number[n] : 0;
        }

        int changesOf(int n) {
            return has(n) ? changes[n] : 0;
        }

        private int aheadOf(int n) {
            return has(n) ? ahead[n] : NONE;
        }

        int latestOf(int at) {
            return isPlace(at) ? latest[at] : NONE;
        }

        boolean hasValue(int n, int aSort, int aNumber) {
            return sortOf(n) == aSort && numberOf(n) == aNumber;
        }

        /** Whether the place became another one by it; what it rests on is told right behind. */
        boolean add(int t, int at, int newSort, int newNumber) {
            if (!isPlace(at) || count < 0 || count >= PUTS_MOST) {
                return false;
            }
            int old = latest[at];
            boolean other = !hasValue(old, newSort, newNumber);
            time[count] = t;
            place[count] = at;
            sort[count] = newSort;
            number[count] = newNumber;
            changes[count] = changesOf(old) + (other ? 1 : 0);
            ahead[count] = old;
            latest[at] = count;
            count++;
            return other;
        }

        void restLatestOn(int step, int logEntry, int one, int two) {
            int n = count - 1;
            if (has(n)) {
                began[n] = step;
                entry[n] = logEntry;
                lookedOne[n] = one;
                lookedTwo[n] = two;
            }
        }

        void dropBehind(int t) {
            for (int n = count - 1; n >= 0 && timeOf(n) > t; n--) {
                if (isPlace(place[n])) {
                    latest[place[n]] = ahead[n];
                }
                count = n;
            }
        }

        /** The one whose value the place has in the state of t; NONE if there is none. */
        int putBy(int t, int at) {
            int n = latestOf(at);
            for (int left = count; left > 0 && timeOf(n) > t; left--) {
                n = aheadOf(n);
            }
            return n;
        }

        /** The first time at which the place of n had as many changes as behind n. */
        int changedSince(int n) {
            int first = n;
            for (int left = count; left > 0 && has(aheadOf(first)); left--) {
                if (changesOf(aheadOf(first)) != changesOf(n)) {
                    break;
                }
                first = aheadOf(first);
            }
            return timeOf(first);
        }

        /** The latest time up to t in whose state the place has the value; NONE: never. */
        int hadBy(int t, int at, int aSort, int aNumber) {
            int upTo = t;
            int n = latestOf(at);
            for (int left = count; left >= 0 && upTo >= 0; left--) {
                if (timeOf(n) <= upTo) {
                    if (hasValue(n, aSort, aNumber)) {
                        return upTo;
                    }
                    upTo = timeOf(n) - 1;
                }
                n = aheadOf(n);
            }
            return NONE;
        }

        /** The k-th time at which the place has more changes than ahead; k NONE: how many. */
        int changeTimes(int at, int k) {
            int found = 0;
            int foundTime = NONE;
            for (int n = 0; n < count && n < PUTS_MOST; n++) {
                if (place[n] == at && time[n] != foundTime && changes[n] != changesOf(ahead[n])) {
                    if (found == k) {
                        return time[n];
                    }
                    foundTime = time[n];
                    found++;
                }
            }
            return k == NONE ? found : NONE;
        }

        /** Marks n and all on which it rests; what is looked at always came ahead. */
        void markAllBelow(int n, boolean[] marks) {
            unmarkAll(marks);
            mark(marks, n);
            for (int i = Math.min(n, count - 1); i >= 0; i--) {
                if (isMarked(marks, i)) {
                    mark(marks, lookedOne[i]);
                    mark(marks, lookedTwo[i]);
                }
            }
        }

        private void unmarkAll(boolean[] marks) {
            for (int n = 0; n < count && n < marks.length; n++) {
                marks[n] = false;
            }
        }

        private void mark(boolean[] marks, int n) {
            if (has(n) && n < marks.length) {
                marks[n] = true;
            }
        }

        /** When the i-th step marked began; i NONE: how many are. */
        int markedStep(int i, boolean[] marks) {
            int found = 0;
            for (int n = 0; n < count && n < PUTS_MOST; n++) {
                if (isMarked(marks, n) && began[n] != NONE) {
                    if (found == i) {
                        return began[n];
                    }
                    found++;
                }
            }
            return i == NONE ? found : NONE;
        }

        /** Marks all that rest on an entry of the log. */
        void markAllAbove(int logEntry, boolean[] marks) {
            unmarkAll(marks);
            for (int n = 0; n < count && n < PUTS_MOST; n++) {
                if (entry[n] == logEntry || isMarked(marks, lookedOne[n])
                        || isMarked(marks, lookedTwo[n])) {
                    mark(marks, n);
                }
            }
        }
    }

    /** A run: what is there of each of its times, and what came to it. */
    private static final class Run {
        final Program program = new Program();
        final Log log = new Log();
        final Puts puts = new Puts();
        final Calls calls = new Calls();
        final Holding holding = new Holding();
        private final int[] counter = new int[TIME_MOST + 1];
        private final int[] outs = new int[TIME_MOST + 1];
        private final int[] check = new int[TIME_MOST + 1];
        /** When the call began that lies on top of the stack; NONE of an empty one. */
        private final int[] top = new int[TIME_MOST + 1];
        int time = 0;
        /** GOING, OVER, or TRAPPED and the trap. */
        int end = GOING;
        int changedPlace = NONE;
        int replayed = 0;
        int backs = 0;
        int statusKept = GOING;

        void takeFrom(Run other, int status) {
            program.takeFrom(other.program);
            log.takeFrom(other.log);
            puts.takeFrom(other.puts);
            calls.takeFrom(other.calls);
            holding.takeFrom(other.holding);
            time = other.time;
            copyRow(other.counter, counter, time + 1);
            copyRow(other.outs, outs, time + 1);
            copyRow(other.check, check, time + 1);
            copyRow(other.top, top, time + 1);
            end = other.end;
            replayed = other.replayed;
            backs = other.backs;
            statusKept = status;
        }

        void start(Program newProgram, int unit, int depth) {
            program.takeFrom(newProgram);
            log.count = 0;
            puts.clear();
            calls.count = 0;
            holding.start(unit, depth);
            counter[0] = 0;
            outs[0] = 0;
            check[0] = 0;
            top[0] = NONE;
            time = 0;
            end = GOING;
            changedPlace = NONE;
            replayed = 0;
            backs = 0;
        }

        boolean hasTime(int t) {
            return t >= 0 && t <= time && t <= TIME_MOST;
        }

        int counterAt(int t) {
            return hasTime(t) ? counter[t] : 0;
        }

        int outsAt(int t) {
            return hasTime(t) ? outs[t] : 0;
        }

        int checkAt(int t) {
            return hasTime(t) ? check[t] : 0;
        }

        /** Also the call below the one that began at t, which was on top then. */
        private int topAt(int t) {
            return hasTime(t) ? top[t] : NONE;
        }

        int stackSizeAt(int t) {
            int size = 0;
            int on = topAt(t);
            while (on != NONE && size < STACK_MOST) {
                size++;
                on = topAt(on);
            }
            return size;
        }

        /** The k-th counter on the stack, 0 the lowest. */
        int stackedAt(int t, int k) {
            int size = stackSizeAt(t);
            if (k < 0 || k >= size) {
                return REFUSED;
            }
            int on = topAt(t);
            for (int i = size - 1; i > k; i--) {
                on = topAt(on);
            }
            return counterAt(on) + 1;
        }

        /** From the top down, both at once; neither is deeper than the stack can be. */
        boolean hasStackLike(int t, Run other) {
            int on = topAt(t);
            int otherOn = other.topAt(t);
            for (int i = 0; i < STACK_MOST && on != NONE && otherOn != NONE; i++) {
                if (counterAt(on) != other.counterAt(otherOn)) {
                    return false;
                }
                on = topAt(on);
                otherOn = other.topAt(otherOn);
            }
            return on == NONE && otherOn == NONE;
        }

        int statusWith(Outside outside) {
            if (end != GOING) {
                return end;
            }
            int kind = program.kindAt(counterAt(time));
            if (kind == KIND_INPUT && outside.waiting == 0) {
                return WAITS;
            }
            if ((kind == KIND_INPUT || kind == KIND_DRAW) && log.isFull()) {
                return LOG_FULL;
            }
            return GOING;
        }

        boolean canStep(Outside outside) {
            return time < TIME_MOST && statusWith(outside) == GOING;
        }

        void step(Outside outside) {
            int next = time + 1;
            if (time < 0 || next > TIME_MOST) {
                return;
            }
            changedPlace = NONE;
            counter[next] = Math.min(counter[time] + 1, INSTRUCTIONS);
            outs[next] = outs[time];
            check[next] = check[time];
            top[next] = top[time];
            int trap = Stepping.perform(this, counter[time], outside);
            if (trap != NO_TRAP) {
                end = TRAPPED + trap;
            }
            time = next;
            holding.timeComes(time);
        }

        boolean putByPoke(int place, int sort, int number) {
            log.addPoke(time, place, sort, number);
            boolean other = puts.add(time, place, sort, number);
            puts.restLatestOn(NONE, log.count - 1, NONE, NONE);
            return other;
        }

        void putByStep(int place, int sort, int number, int one, int two) {
            boolean other = puts.add(time + 1, place, sort, number);
            puts.restLatestOn(time, NONE, one, two);
            changedPlace = other ? place : NONE;
        }

        void putFromOutside(int place, int origin, int number) {
            log.addWhole(time, origin, number);
            putByStep(place, WHOLE, number, NONE, NONE);
            puts.restLatestOn(time, log.count - 1, NONE, NONE);
        }

        void goOnAt(int p) {
            if (time >= 0 && time < TIME_MOST) {
                counter[time + 1] = p;
            }
        }

        void addOut(int sort, int number) {
            if (time >= 0 && time < TIME_MOST) {
                outs[time + 1]++;
                check[time + 1] = 31 * check[time] + 3 * number + sort;
            }
        }

        void stackUp() {
            if (time >= 0 && time < TIME_MOST) {
                top[time + 1] = time;
            }
        }

        void stackDown() {
            if (time >= 0 && time < TIME_MOST) {
                top[time + 1] = topAt(topAt(time));
            }
        }

        void goBack(int t, Outside outside) {
            if (!hasTime(t)) {
                return;
            }
            log.dropBehind(t, outside);
            puts.dropBehind(t);
            calls.dropFrom(t);
            holding.dropAbove(t);
            time = t;
            end = GOING;
            backs++;
        }
    }

    /** What an instruction does to a run, and by which trap; one and two are puts it looks at. */
    private static final class Stepping {
        static int perform(Run r, int at, Outside outside) {
            int kind = r.program.kindAt(at);
            int a = r.program.firstAt(at);
            int b = r.program.secondAt(at);
            int c = r.program.thirdAt(at);
            switch (kind) {
                case KIND_OVER:
                    r.end = OVER;
                    return NO_TRAP;
                case KIND_WHOLE:
                    r.putByStep(a, WHOLE, b, NONE, NONE);
                    return NO_TRAP;
                case KIND_FLAG:
                    r.putByStep(a, FLAG, b, NONE, NONE);
                    return NO_TRAP;
                case KIND_NOTHING:
                    r.putByStep(a, NOTHING, 0, NONE, NONE);
                    return NO_TRAP;
                case KIND_COPY:
                    copy(r, a, r.puts.latestOf(b));
                    return NO_TRAP;
                case KIND_SAME:
                    compare(r, a, r.puts.latestOf(b), r.puts.latestOf(c));
                    return NO_TRAP;
                case KIND_NOT:
                    return combine(r, a, r.puts.latestOf(b), NONE, kind);
                case KIND_AND:
                    return combine(r, a, r.puts.latestOf(b), r.puts.latestOf(c), kind);
                case KIND_FROM_CELL:
                    return fromCell(r, a, r.puts.latestOf(b));
                case KIND_TO_CELL:
                    return toCell(r, r.puts.latestOf(a), r.puts.latestOf(b));
                case KIND_INPUT:
                    r.putFromOutside(a, INPUT, outside.takeFirst());
                    return NO_TRAP;
                case KIND_DRAW:
                    r.putFromOutside(a, DRAW, outside.draw(b));
                    return NO_TRAP;
                case KIND_OUT:
                    putOut(r, r.puts.latestOf(a));
                    return NO_TRAP;
                case KIND_JUMP:
                    r.goOnAt(a);
                    return NO_TRAP;
                case KIND_JUMP_IF:
                    return goOnIf(r, r.puts.latestOf(a), b);
                case KIND_CALL:
                    return goDown(r, a);
                case KIND_RETURN:
                    goUp(r);
                    return NO_TRAP;
                case NONE:
                    return TRAP_NO_INSTRUCTION;
                default:
                    return reckon(r, a, r.puts.latestOf(b), r.puts.latestOf(c), kind);
            }
        }

        private static void putOut(Run r, int one) {
            r.addOut(r.puts.sortOf(one), r.puts.numberOf(one));
        }

        private static void copy(Run r, int place, int one) {
            r.putByStep(place, r.puts.sortOf(one), r.puts.numberOf(one), one, NONE);
        }

        private static void compare(Run r, int place, int one, int two) {
            boolean same = r.puts.hasValue(one, r.puts.sortOf(two), r.puts.numberOf(two));
            r.putByStep(place, FLAG, same ? 1 : 0, one, two);
        }

        private static int combine(Run r, int place, int one, int two, int kind) {
            if (r.puts.sortOf(one) != FLAG || kind == KIND_AND && r.puts.sortOf(two) != FLAG) {
                return TRAP_SORT;
            }
            int s = r.puts.numberOf(one);
            int flag = kind == KIND_NOT ? 1 - s : s & r.puts.numberOf(two);
            r.putByStep(place, FLAG, flag, one, two);
            return NO_TRAP;
        }

        private static int fromCell(Run r, int place, int one) {
            if (r.puts.sortOf(one) != WHOLE) {
                return TRAP_SORT;
            }
            int cell = r.puts.numberOf(one);
            if (cell < 0 || cell >= CELLS) {
                return TRAP_CELL;
            }
            int two = r.puts.latestOf(REGISTERS + cell);
            r.putByStep(place, r.puts.sortOf(two), r.puts.numberOf(two), one, two);
            return NO_TRAP;
        }

        private static int toCell(Run r, int one, int two) {
            if (r.puts.sortOf(one) != WHOLE) {
                return TRAP_SORT;
            }
            int cell = r.puts.numberOf(one);
            if (cell < 0 || cell >= CELLS) {
                return TRAP_CELL;
            }
            r.putByStep(REGISTERS + cell, r.puts.sortOf(two), r.puts.numberOf(two), one, two);
            return NO_TRAP;
        }

        private static int goOnIf(Run r, int flagPut, int p) {
            if (r.puts.sortOf(flagPut) != FLAG) {
                return TRAP_SORT;
            }
            if (r.puts.numberOf(flagPut) == 1) {
                r.goOnAt(p);
            }
            return NO_TRAP;
        }

        private static int goDown(Run r, int p) {
            int stacked = r.stackSizeAt(r.time);
            if (stacked >= STACK_MOST) {
                return TRAP_STACK;
            }
            r.calls.add(r.time, p, stacked);
            r.stackUp();
            r.goOnAt(p);
            return NO_TRAP;
        }

        private static void goUp(Run r) {
            int stacked = r.stackSizeAt(r.time);
            if (stacked == 0) {
                r.end = OVER;
                return;
            }
            r.goOnAt(r.stackedAt(r.time, stacked - 1));
            r.stackDown();
        }

        private static int reckon(Run r, int place, int one, int two, int kind) {
            if (r.puts.sortOf(one) != WHOLE || r.puts.sortOf(two) != WHOLE) {
                return TRAP_SORT;
            }
            int s = r.puts.numberOf(one);
            int t = r.puts.numberOf(two);
            if ((kind == KIND_QUOTIENT || kind == KIND_REST) && t == 0) {
                return TRAP_ZERO;
            }
            if (kind == KIND_BELOW) {
                r.putByStep(place, FLAG, s < t ? 1 : 0, one, two);
            } else {
                r.putByStep(place, WHOLE, reckoned(kind, s, t), one, two);
            }
            return NO_TRAP;
        }

        private static int reckoned(int kind, int s, int t) {
            switch (kind) {
                case KIND_PLUS:
                    return s + t;
                case KIND_MINUS:
                    return s - t;
                case KIND_TIMES:
                    return s * t;
                case KIND_QUOTIENT:
                    return t == 0 ? 0 : s / t;
                default:
                    return t == 0 ? 0 : s % t;
            }
        }
    }

    /** Two runs laid beside each other. */
    private static final class Beside {
        /** How many pairs the calls from i of the one and from j of the other on can make. */
        private final int[][] most = new int[CALLS_MOST + 1][CALLS_MOST + 1];
        private final int[] callOne = new int[CALLS_MOST];
        private final int[] callOther = new int[CALLS_MOST];
        int pairs = 0;
        private final int[] putOne = new int[PLACES];
        private final int[] putOther = new int[PLACES];

        boolean has(int i) {
            return i >= 0 && i < pairs && i < CALLS_MOST;
        }

        int callOfOne(int i) {
            return has(i) ? callOne[i] : NONE;
        }

        int callOfOther(int i) {
            return has(i) ? callOther[i] : NONE;
        }

        void lay(Calls one, Calls other) {
            int rows = Math.min(one.count, CALLS_MOST);
            int columns = Math.min(other.count, CALLS_MOST);
            countPairs(one, rows, other, columns);
            choosePairs(one, rows, other, columns);
        }

        private void countPairs(Calls one, int rows, Calls other, int columns) {
            Arrays.fill(most[rows], 0);
            for (int i = rows - 1; i >= 0; i--) {
                most[i][columns] = 0;
                for (int j = columns - 1; j >= 0; j--) {
                    int without = Math.max(most[i + 1][j], most[i][j + 1]);
                    int with = one.isLike(i, other, j) ? 1 + most[i + 1][j + 1] : 0;
                    most[i][j] = Math.max(without, with);
                }
            }
        }

        /** Of each call of the one in turn the first partner by which no pair is lost. */
        private void choosePairs(Calls one, int rows, Calls other, int columns) {
            pairs = 0;
            int from = 0;
            for (int i = 0; i < rows && pairs < CALLS_MOST; i++) {
                int j = from;
                while (j < columns && !(one.isLike(i, other, j)
                        && 1 + most[i + 1][j + 1] == most[i][from])) {
                    j++;
                }
                if (j < columns) {
                    callOne[pairs] = i;
                    callOther[pairs] = j;
                    pairs++;
                    from = j + 1;
                }
            }
        }

        /** The least time at which the states are unlike; all ahead of it are alike. */
        int firstUnlike(Run one, Run other) {
            Arrays.fill(putOne, NONE);
            Arrays.fill(putOther, NONE);
            int i = 0;
            int j = 0;
            int both = Math.min(one.time, other.time);
            for (int t = 0; t <= both; t++) {
                int behindOne = goThrough(one.puts, i, t, putOne);
                int behindOther = goThrough(other.puts, j, t, putOther);
                if (one.counterAt(t) != other.counterAt(t) || !one.hasStackLike(t, other)
                        || areUnlike(one.puts, i, behindOne, one.puts, other.puts)
                        || areUnlike(other.puts, j, behindOther, one.puts, other.puts)) {
                    return t;
                }
                i = behindOne;
                j = behindOther;
            }
            return NONE;
        }

        /** Notes which put each place has in the state of t; the first one behind that time. */
        private static int goThrough(Puts puts, int from, int t, int[] putOf) {
            int n = from;
            while (n < puts.count && puts.timeOf(n) <= t) {
                int place = puts.placeOf(n);
                if (place >= 0 && place < putOf.length) {
                    putOf[place] = n;
                }
                n++;
            }
            return n;
        }

        /** Whether a place to which one of these puts came has unlike values now. */
        private boolean areUnlike(Puts puts, int from, int to, Puts one, Puts other) {
            for (int n = from; n < to; n++) {
                int place = puts.placeOf(n);
                if (isPlace(place)) {
                    int put = putOther[place];
                    if (!one.hasValue(putOne[place], other.sortOf(put), other.numberOf(put))) {
                        return true;
                    }
                }
            }
            return false;
        }
    }
}
