import java.util.TreeSet;

/** The boundary cases that promises 1 to 32 name: too small, too large, empty, full, a refused call. */
public final class CallBoundariesTest {
    private static final int NONE = Bench.NONE;
    private static final int NO_SUCH = Bench.NO_SUCH;
    private static final int NO = Bench.NO;
    private static final int MIN = Bench.MIN;
    private static final int MAX = Bench.MAX;
    private static final int NOTHING = Bench.NOTHING;
    private static final int FLAG = Bench.FLAG;
    private static final int WHOLE = Bench.WHOLE;
    private static final int[] NO_PLACES = {MIN, -2, -1, 40, 41, MAX};

    public static void main(String[] args) {
        newObject();
        withoutRun();
        code();
        codeTakenAway();
        codeRefusedLeavesOld();
        spacing();
        begin();
        beginInPlaceOfNow();
        give();
        seed();
        poke();
        pokeWhetherAnother();
        pokeOfNow();
        run();
        runTillStatus();
        runTillWatched();
        watch();
        watchOfAllRuns();
        back();
        backOfNow();
        keep();
        keepAsItIs();
        keepItsOwnRows();
        keepAtTheLimits();
        use();
        useAfterBegin();
        at();
        state();
        stateOfStack();
        last();
        when();
        changed();
        changedByPokes();
        watched();
        watchedRising();
        rests();
        hangs();
        history();
        historyOfPokes();
        done();
        call();
        log();
        held();
        would();
        gap();
        sparing();
        align();
        pair();
        pairReplays();
        pairBits();
        parts();
        partsByEach();
        look();
        lookMost();
        lookAtKept();
        lookLatest();
        Bench.end();
    }

    private static void due(String call, long got, long want) {
        Bench.due(call, got, want);
    }

    private static void due(String call, boolean got, boolean want) {
        Bench.due(call, got, want);
    }

    private static int[] i(int... row) {
        return row;
    }

    /** What can be seen of the run asked and of all else, but the latest REPLAYED. */
    private static String seen(RunsBack x) {
        StringBuilder s = new StringBuilder();
        for (int w = 0; w <= 12; w++) if (w != 10) s.append(x.look(w)).append(' ');
        int t = x.look(0);
        for (int w = 0; w <= 4; w++) s.append(x.state(t, w)).append(' ');
        s.append(x.log(NONE, 0)).append(' ').append(x.call(NONE, 0)).append(' ').append(x.held(NONE, 0));
        for (int p = 0; p < 40; p += 13) s.append(' ').append(x.at(t, p, 2));
        return s.toString();
    }

    private static void unchanged(RunsBack x, String ahead) {
        String behind = seen(x);
        if (!behind.equals(ahead)) System.out.println("seen ahead:  " + ahead + "\nseen behind: " + behind);
        due("nothing else changes", behind.equals(ahead), true);
    }

    // ---- promises 1 to 12 ----

    private static void newObject() {
        Bench.sentence("Promise 1: No PROGRAM, no RUN. UNIT 8, DEPTH 2");
        RunsBack x = new RunsBack();
        due("NONE", RunsBack.NONE, -1);
        due("begin()", x.begin(), 0);
        due("unit", x.look(4), 8);
        due("depth", x.look(5), 2);
        due("kind at 0", x.state(0, 4), NONE);
        due("kept", x.look(7), 0);
        due("another object", new RunsBack().look(4), 0);
    }

    private static void withoutRun() {
        Bench.sentence("Promise 1: .. no RUN");
        RunsBack x = new RunsBack();
        x.code(0, 0, 0, 0, 0);
        due("give", x.give(1), NONE);
        due("poke", x.poke(0, WHOLE, 1), NONE);
        due("run", x.run(1), NONE);
        due("back", x.back(0), NONE);
        due("keep", x.keep(), NONE);
        due("use(0)", x.use(0), false);
        due("use(NONE)", x.use(NONE), true);
        due("at", x.at(0, 0, 0), NO);
        due("state", x.state(0, 0), NO);
        due("last", x.last(0, 0), NO_SUCH);
        due("when", x.when(0, 0, 0, 0), NO_SUCH);
        due("changed", x.changed(0, 0), NO);
        due("watched", x.watched(1), NO_SUCH);
        due("rests", x.rests(0, 0, NONE), NO_SUCH);
        due("hangs", x.hangs(0, 0, 0), NO);
        due("history", x.history(0, NONE, 0), NO);
        due("done", x.done(0, 0), NO_SUCH);
        due("call", x.call(NONE, 0), NONE);
        due("log", x.log(NONE, 0), NO);
        due("held", x.held(NONE, 0), NONE);
        due("align", x.align(NONE, NONE), NO_SUCH);
        due("pair", x.pair(NONE, NONE, 0, 0), NO);
        due("parts", x.parts(NONE, NONE), NO_SUCH);
        for (int w = 0; w <= 8; w++) due("look(" + w + ")", x.look(w), 0);
        due("none waits", x.look(8), 0);
        Bench.sentence("Promise 1: .. what needs no RUN");
        due("seed", x.seed(5), 1);
        due("watch", x.watch(39, true), true);
        due("spacing", x.spacing(64, 8), true);
        due("would", x.would(8, 2, 8), 2);
        due("gap", x.gap(8, 2, 8), 7);
        due("sparing", x.sparing(2, 8, 2), 5);
    }

    private static void code() {
        Bench.sentence("Promise 2: An INSTRUCTION at a place of the PROGRAM: true; false if one can't be");
        RunsBack x = new RunsBack();
        for (int at : new int[] {MIN, -1, 64, MAX}) {
            due("code(" + at + ")", x.code(at, 0, 0, 0, 0), false);
            due("code(" + at + ", NONE)", x.code(at, NONE, 0, 0, 0), false);
        }
        for (int kind : new int[] {MIN, -2, 23, 24, MAX}) due("kind " + kind, x.code(0, kind, 0, 0, 0), false);
        due("begin()", x.begin(), 0);
        due("code(0)", x.code(0, 0, 0, 0, 0), true);
        due("code(63)", x.code(63, 22, 7, 0, 0), true);
        due("begin()", x.begin(), 2);
        for (int at = 0; at < 64; at++) x.code(at, 18, 0, 0, 0);
        due("all 64", x.begin(), 64);
    }

    private static void codeTakenAway() {
        Bench.sentence("Promise 2: (kind NONE: none there)");
        RunsBack x = new RunsBack();
        due("where none is", x.code(5, NONE, MIN, MAX, 64), true);
        x.code(5, 0, 0, 0, 0);
        due("begin()", x.begin(), 1);
        due("where one is", x.code(5, NONE, MIN, MAX, 64), true);
        due("begin()", x.begin(), 0);
    }

    private static void codeRefusedLeavesOld() {
        Bench.sentence("Promise 2: false if one can't be .. RUNS that have begun keep theirs");
        RunsBack x = Bench.with(i(1, 0, 5));
        due("another one that can't be", x.code(0, 2, 0, 2, 0), false);
        due("no kind", x.code(0, 23, 0, 0, 0), false);
        x.begin();
        due("another one", x.code(0, 1, 0, 6, 0), true);
        x.run(1);
        Bench.value(x, 1, 0, WHOLE, 5);
        x.back(0);
        x.run(1);
        Bench.value(x, 1, 0, WHOLE, 5);
        x.begin();
        x.run(1);
        Bench.value(x, 1, 0, WHOLE, 6);
    }

    private static void spacing() {
        Bench.sentence("Promise 3: UNIT, DEPTH for RUNS that begin from now on: true; false if one can't be");
        RunsBack x = new RunsBack();
        int[][] can = {{1, 1}, {1, 8}, {64, 1}, {64, 8}, {9, 4}};
        int[][] not = {{0, 2}, {65, 2}, {-1, 2}, {MIN, 2}, {MAX, 2}, {8, 0}, {8, 9}, {8, -1}, {8, MIN}, {8, MAX}};
        for (int[] s : can) {
            due("spacing", x.spacing(s[0], s[1]), true);
            x.begin();
            due("unit", x.look(4), s[0]);
            due("depth", x.look(5), s[1]);
        }
        for (int[] s : not) {
            due("spacing(" + s[0] + ", " + s[1] + ")", x.spacing(s[0], s[1]), false);
            x.begin();
            due("unit as it was", x.look(4), 9);
            due("depth as it was", x.look(5), 4);
        }
        x.spacing(3, 3);
        due("the RUN that has begun", x.look(4) * 10 + x.look(5), 94);
    }

    private static void begin() {
        Bench.sentence("Promise 4: A RUN begins; no INPUTS wait: how many INSTRUCTIONS it has");
        RunsBack x = Bench.with(i(19, 0));
        x.code(63, 0, 0, 0, 0);
        due("begin()", x.begin(), 2);
        x.give(1);
        x.give(2);
        due("begin()", x.begin(), 2);
        due("none wait", x.look(8), 0);
        due("run", x.run(5), 0);
        due("give", x.give(1), 1);
    }

    private static void beginInPlaceOfNow() {
        Bench.sentence("Promise 4: (in place of the one that is NOW)");
        RunsBack x = Bench.spaced(1, 8, i(20, 0, 9), i(17, 3), i(0), i(20, 7, 9), i(18));
        x.poke(39, FLAG, 1);
        x.run(9);
        x.back(2);
        x.run(9);
        x.watch(5, true);
        x.begin();
        for (int w : new int[] {0, 1, 2, 6, 7, 8}) due("look(" + w + ")", x.look(w), 0);
        due("most held", x.look(3), 1);
        due("held", x.held(NONE, 0), 1);
        due("log", x.log(NONE, 0), 0);
        due("calls", x.call(NONE, 0), 0);
        due("watched stay", x.look(11), 32);
        for (int p = 0; p < 40; p++) due("history of " + p, x.history(p, NONE, 0), 0);
        x.poke(0, FLAG, 0);
        due("the first entry", x.hangs(0, 0, 0), 1);
        due("no CELL on the first entry", x.hangs(0, 0, 1), 0);
        due("the CELL of the RUN ahead", x.at(0, 39, 0), NOTHING);
    }

    private static void give() {
        Bench.sentence("Promise 5: An INPUT more waits: how many wait. NONE if 100 do, or there is no RUN");
        RunsBack x = Bench.with(i(19, 0), i(15, 0));
        due("no RUN", x.give(1), NONE);
        x.begin();
        due("none of it waits", x.look(8), 0);
        for (int n = 1; n <= 100; n++) due("give " + n, x.give(-n), n);
        due("the 101st", x.give(5), NONE);
        due("wait", x.look(8), 100);
        x.run(1);
        due("one was taken", x.give(-101), 100);
        due("one more", x.give(5), NONE);
        x.run(500);
        due("the last", x.log(100, 2), -101);
        due("no other", x.log(NONE, 0), 101);
        RunsBack y = Bench.gone(1, i(0));
        due("of a RUN that is over", y.give(MIN), 1);
    }

    private static void seed() {
        Bench.sentence("Promise 6: X: what it was");
        RunsBack x = new RunsBack();
        int was = 1;
        for (int v : new int[] {0, MIN, MAX, -1, 1}) {
            due("seed(" + v + ")", x.seed(v), was);
            due("look(9)", x.look(9), v);
            was = v;
        }
        x.code(0, 20, 0, 1000, 0);
        x.seed(0);
        x.begin();
        x.run(1);
        due("from 0", x.look(9), 1013904223);
        Bench.value(x, 1, 0, WHOLE, (1013904223 >>> 8) % 1000);
        due("seed", x.seed(4), 1013904223);
    }

    private static void poke() {
        Bench.sentence("Promise 7: NONE if one can't be (a FLAG 0, 1, NOTHING 0), there is no RUN, or the LOG has 800");
        RunsBack x = Bench.with(Bench.round());
        due("no RUN", x.poke(0, WHOLE, 1), NONE);
        x.begin();
        x.poke(0, WHOLE, 7);
        String ahead = seen(x);
        for (int p : NO_PLACES) due("poke(" + p + ")", x.poke(p, WHOLE, 1), NONE);
        int[][] not = {{NOTHING, 1}, {NOTHING, -1}, {FLAG, 2}, {FLAG, -1}, {-1, 0}, {3, 0}, {MIN, 0}, {MAX, 0}};
        for (int[] v : not) due("poke(0, " + v[0] + ", " + v[1] + ")", x.poke(0, v[0], v[1]), NONE);
        unchanged(x, ahead);
        RunsBack y = Bench.nearlyFull(i(15, Bench.NEARLY_FULL_COUNTER));
        due("799", y.poke(0, NOTHING, 0), 1);
        ahead = seen(y);
        due("800", y.poke(0, FLAG, 1), NONE);
        unchanged(y, ahead);
    }

    private static void pokeWhetherAnother() {
        Bench.sentence("Promise 7: whether it became another one (1, 0; it is logged in any case)");
        RunsBack x = Bench.begun(Bench.round());
        int[][] rows = {{NOTHING, 0, 0}, {FLAG, 0, 1}, {FLAG, 0, 0}, {WHOLE, 0, 1}, {WHOLE, 1, 1}, {FLAG, 1, 1},
            {FLAG, 1, 0}, {NOTHING, 0, 1}, {NOTHING, 0, 0}};
        for (int n = 0; n < rows.length; n++) {
            due("poke " + n, x.poke(39, rows[n][0], rows[n][1]), rows[n][2]);
            due("logged", x.log(NONE, 0), n + 1);
            due("its SORT", x.log(n, 4), rows[n][0]);
        }
        due("changes", x.at(0, 39, 2), 5);
    }

    private static void pokeOfNow() {
        Bench.sentence("Promise 7: a VALUE comes to a PLACE of the RUN NOW");
        RunsBack x = Bench.gone(1, i(0));
        x.keep();
        x.use(0);
        due("poke", x.poke(5, WHOLE, 5), 1);
        due("not of the KEPT one", x.log(NONE, 0), 0);
        due("not of the KEPT one", x.at(1, 5, 0), NOTHING);
        x.use(NONE);
        Bench.value(x, 1, 5, WHOLE, 5);
        due("over still", x.look(1), 2);
        due("time", x.log(0, 0), 1);
    }

    private static void run() {
        Bench.sentence("Promise 8: n STEPS at most (1 .. 500): how many. NONE if n can't be, or there is no RUN");
        RunsBack x = Bench.with(Bench.round());
        due("no RUN", x.run(1), NONE);
        x.begin();
        for (int n : new int[] {MIN, -1, 0, 501, MAX}) due("run(" + n + ")", x.run(n), NONE);
        due("time", x.look(0), 0);
        due("run(1)", x.run(1), 1);
        due("run(500)", x.run(500), 500);
        due("time", x.look(0), 501);
        x.keep();
        x.use(0);
        due("of the RUN NOW", x.run(3), 3);
        due("the KEPT one", x.look(0), 501);
    }

    private static void runTillStatus() {
        Bench.sentence("Promise 8: till STATUS isn't 0, TIME is 3000");
        due("over", Bench.begun(i(22, 0), i(0)).run(500), 2);
        due("over by 18", Bench.begun(i(22, 0), i(18)).run(500), 2);
        due("a trap", Bench.begun(i(22, 0), i(11, 0, 0)).run(500), 2);
        due("waits", Bench.begun(i(22, 0), i(19, 0)).run(500), 1);
        due("full", Bench.nearlyFull(i(20, 0, 5), i(20, 0, 5)).run(500), 1);
        RunsBack x = Bench.gone(2900, Bench.round());
        due("to 3000", x.run(101), 100);
        due("at 3000", x.run(1), 0);
    }

    private static void runTillWatched() {
        Bench.sentence("Promise 8: or behind a STEP by which a WATCHED PLACE became another one");
        RunsBack x = Bench.begun(i(1, 0, 3), i(1, 0, 3), i(2, 0, 1), i(1, 1, 1), i(14, 1, 0), i(14, 1, 0), i(22, 0),
            i(22, 0), i(20, 0, 1), i(19, 0), i(0));
        x.give(0);
        x.watch(0, true);
        x.watch(9, true);
        due("behind the first", x.run(500), 1);
        x.poke(0, WHOLE, 4);
        x.poke(0, WHOLE, 3);
        due("the same VALUE goes on, another SORT stops", x.run(500), 2);
        due("a CELL", x.run(500), 2);
        due("the same to a CELL, then NOTHING", x.run(500), 2);
        due("NOTHING again, then a DRAW", x.run(500), 2);
        due("the INPUT is the same", x.run(500), 2);
        due("time", x.look(0), 11);
        RunsBack y = Bench.begun(i(22, 7), i(1, 7, 5), i(0));
        y.watch(7, true);
        due("as many as n", y.run(2), 2);
        y.watch(7, false);
        y.watch(39, true);
        y.back(0);
        due("none WATCHED changes", y.run(500), 3);
        Bench.sentence("Promise 8: .. by which a WATCHED PLACE became another one (by that STEP alone)");
        RunsBack z = Bench.begun(i(1, 7, 5), i(21, 7), i(17, 4), i(0), i(15, 5), i(2, 6, 0), i(16, 6, 5), i(18));
        z.watch(7, true);
        due("behind the first", z.run(500), 1);
        due("those that PUT none go on", z.run(500), 7);
    }

    private static void watch() {
        Bench.sentence("Promise 9: A PLACE is WATCHED or not: true; false if it is so, or no PLACE");
        RunsBack x = new RunsBack();
        for (int p : NO_PLACES) {
            due("watch(" + p + ", true)", x.watch(p, true), false);
            due("watch(" + p + ", false)", x.watch(p, false), false);
        }
        due("none at first", x.look(11) | x.look(12), 0);
        for (int p = 0; p < 40; p++) {
            due("not WATCHED " + p, x.watch(p, false), false);
            due("watch " + p, x.watch(p, true), true);
            due("it is so " + p, x.watch(p, true), false);
        }
        due("all registers", x.look(11), 255);
        due("all cells", x.look(12), -1);
        for (int p : new int[] {0, 7, 8, 39}) {
            due("no more " + p, x.watch(p, false), true);
            due("it is so " + p, x.watch(p, false), false);
        }
        due("registers", x.look(11), 255 - 1 - 128);
        due("cells", x.look(12), ~(1 | MIN));
    }

    private static void watchOfAllRuns() {
        Bench.sentence("Promise 9: (none at first; of all RUNS)");
        RunsBack x = Bench.with(Bench.counting());
        x.watch(1, true);
        x.begin();
        due("the first RUN", x.run(500), 2);
        x.keep();
        x.begin();
        due("the next RUN", x.run(500), 2);
        due("look(11)", x.look(11), 2);
        x.use(0);
        due("watched() of a KEPT one", x.watched(2), NONE);
        x.watch(0, true);
        due("watched() of a KEPT one", x.watched(2), 1);
    }

    private static void back() {
        Bench.sentence("Promise 10: how many STEPS were REPLAYED. NONE if t is below 0, TIME or more, or there is no RUN");
        RunsBack x = Bench.with(Bench.counting());
        due("no RUN", x.back(0), NONE);
        x.begin();
        for (int t : new int[] {MIN, -1, 0, 1, MAX}) due("back(" + t + ") at 0", x.back(t), NONE);
        x.run(1);
        due("back(1) at 1", x.back(1), NONE);
        due("back(0) at 1", x.back(0), 0);
        x.run(28);
        String ahead = seen(x);
        for (int t : new int[] {MIN, -1, 28, 29, MAX}) due("back(" + t + ") at 28", x.back(t), NONE);
        unchanged(x, ahead);
        due("back(27)", x.back(27), 3);
        due("back(15)", x.back(15), 15);
        due("how often", x.look(6), 3);
        due("in all", x.look(2), 18);
    }

    private static void backOfNow() {
        Bench.sentence("Promise 10: BACK (of the RUN NOW)");
        RunsBack x = Bench.gone(28, Bench.counting());
        x.keep();
        x.run(12);
        x.use(0);
        due("TIME of NOW counts", x.back(39), 7);
        due("not of the KEPT one", x.look(0), 28);
        due("not of the KEPT one", x.look(6), 0);
        due("not of the KEPT one", x.look(2), 0);
        due("look(10)", x.look(10), 7);
        x.use(NONE);
        due("time", x.look(0), 39);
    }

    private static void keep() {
        Bench.sentence("Promise 11: its number. NONE if 4 are, or there is no RUN");
        RunsBack x = Bench.with(Bench.counting());
        due("no RUN", x.keep(), NONE);
        due("kept", x.look(7), 0);
        x.begin();
        for (int k = 0; k < 4; k++) {
            due("keep()", x.keep(), k);
            due("kept", x.look(7), k + 1);
            x.run(5);
        }
        String ahead = seen(x);
        due("the 5th", x.keep(), NONE);
        x.begin();
        due("the 5th, of another RUN", x.keep(), NONE);
        x.run(20);
        unchanged(x, ahead);
        for (int k = 0; k < 4; k++) {
            x.use(k);
            due("time of " + k, x.look(0), 5 * k);
        }
    }

    private static void keepAsItIs() {
        Bench.sentence("Promise 11: The RUN NOW is KEPT (as it is; it goes on as NOW)");
        RunsBack x = Bench.begun(i(19, 0), i(17, 3), i(0), i(21, 0), i(20, 1, 9), i(15, 0));
        x.give(7);
        x.give(8);
        x.poke(39, WHOLE, 3);
        x.run(5);
        x.back(3);
        due("keep()", x.keep(), 0);
        due("inputs wait still", x.look(8), 1);
        x.run(4);
        x.poke(39, FLAG, 1);
        x.back(1);
        x.poke(0, FLAG, 1);
        x.begin();
        x.use(0);
        due("time", x.look(0), 3);
        due("outs", x.state(3, 2), 1);
        due("stack", x.state(3, 10), 2);
        due("log", x.log(NONE, 0), 2);
        due("calls", x.call(NONE, 0), 1);
        due("backs", x.look(6), 1);
        Bench.value(x, 3, 39, WHOLE, 3);
        Bench.value(x, 3, 0, WHOLE, 7);
        due("rests", x.rests(3, 0, 0), 0);
        due("hangs", x.hangs(1, 3, 0), 1);
        x.use(NONE);
        due("NOW", x.look(0), 0);
    }

    /** Each row of the log, of the outs and the calls, when the run now has others in their place. */
    private static void keepItsOwnRows() {
        Bench.sentence("Promise 11: The RUN NOW is KEPT (as it is; it goes on as NOW)");
        RunsBack x = Bench.begun(i(22, 0), i(19, 0), i(21, 0), i(17, 5), i(0), i(20, 1, 1000), i(0));
        x.give(-7);
        x.run(1);
        x.poke(9, FLAG, 1);
        x.run(9);
        int drawn = x.log(2, 2);
        x.keep();
        x.code(3, 17, 6, 0, 0);
        x.begin();
        x.give(5);
        for (int n = 0; n < 4; n++) x.poke(30 + n, WHOLE, 100 + n);
        x.run(9);
        x.use(0);
        int[][] want = {{1, 2, 1, 9, FLAG}, {1, 0, -7, NONE, WHOLE}, {4, 1, drawn, NONE, WHOLE}};
        due("how many", x.log(NONE, 0), 3);
        for (int k = 0; k < 3; k++) {
            for (int w = 0; w < 5; w++) due("log(" + k + ", " + w + ")", x.log(k, w), want[k][w]);
        }
        due("check", x.state(3, 3), -21 + WHOLE);
        due("check of now", x.state(6, 3), -21 + WHOLE);
        due("outs", x.state(2, 2) * 10 + x.state(3, 2), 1);
        due("counter", x.state(4, 0), 5);
        due("stack", x.state(4, 10), 4);
        due("p", x.call(0, 1), 5);
        due("history", x.history(0, 0, 2), -7);
        due("the CELL of NOW", x.history(30, NONE, 0), 0);
        due("changes", x.at(6, 9, 2), 1);
        due("when", x.when(6, 0, NOTHING, 0), 1);
        due("time", x.look(0), 6);
        due("status", x.look(1), 2);
    }

    private static void keepAtTheLimits() {
        Bench.sentence("Promise 11: KEPT (as it is), at the limits of TIME, LOG, CALLS");
        RunsBack x = Bench.nearlyFull(i(20, 0, 5), i(15, Bench.NEARLY_FULL_COUNTER + 1));
        Bench.go(x, 3000);
        due("time", x.look(0), 3000);
        x.poke(0, FLAG, 1);
        x.keep();
        x.begin();
        x.use(0);
        due("log", x.log(NONE, 0), 800);
        due("the last", x.log(799, 0), Bench.NEARLY_FULL_TIME);
        due("counter at 3000", x.state(3000, 0), Bench.NEARLY_FULL_COUNTER + 1);
        due("done", x.done(3000, Bench.NEARLY_FULL_COUNTER + 1), 3000 - Bench.NEARLY_FULL_TIME - 1);
        due("rests", x.rests(3000, 0, 0), Bench.NEARLY_FULL_TIME);
        RunsBack y = Bench.gone(400, Bench.calling());
        y.keep();
        y.begin();
        y.use(0);
        due("calls", y.call(NONE, 0), 100);
        due("the last", y.call(99, 0), 297);
    }

    private static void use() {
        Bench.sentence("Promise 12: a KEPT one (0 .. 3), the one that is NOW (NONE; at first; always): true; false if there "
            + "is no such KEPT one");
        RunsBack x = Bench.with(Bench.counting());
        due("NONE without a RUN", x.use(NONE), true);
        for (int r : new int[] {MIN, -2, 0, 1, 3, 4, MAX}) due("use(" + r + ")", x.use(r), false);
        x.begin();
        for (int k = 0; k < 4; k++) {
            due("ahead of keep()", x.use(k), false);
            x.keep();
            due("behind keep()", x.use(k), true);
            due("time", x.look(0), k);
            x.run(1);
            due("time still", x.look(0), k);
        }
        for (int r : new int[] {MIN, -2, 4, MAX}) {
            due("use(" + r + ")", x.use(r), false);
            due("the one asked stays", x.look(0), 3);
        }
        due("NOW again", x.use(NONE), true);
        due("time", x.look(0), 4);
    }

    private static void useAfterBegin() {
        Bench.sentence("Promise 12: Which RUN is asked from now on");
        RunsBack x = Bench.gone(28, Bench.counting());
        x.keep();
        x.use(0);
        x.code(0, 0, 0, 0, 0);
        x.spacing(1, 1);
        x.begin();
        x.run(5);
        due("time", x.look(0), 28);
        due("unit", x.look(4), 8);
        due("kind", x.state(0, 4), 1);
        due("at", x.at(27, 0, 1), 9);
        due("last", x.last(27, 0), 27);
        due("when", x.when(28, 0, WHOLE, 0), 2);
        due("changed", x.changed(26, 0), 1);
        due("rests", x.rests(28, 0, NONE), 11);
        due("history", x.history(0, NONE, 0), 10);
        due("done", x.done(28, 0), 1);
        due("held", x.held(NONE, 0), 3);
        x.use(NONE);
        due("of NOW: time", x.look(0), 1);
        due("of NOW: kind", x.state(0, 4), 0);
        due("of NOW: replayed", x.look(2), 0);
    }

    // ---- promises 13 to 18: what is REPLAYED ----

    /** At 28 with unit 8 and depth 2: the times 0, 16 and 24 are held. */
    private static RunsBack at28() {
        return Bench.gone(28, Bench.counting());
    }

    private static void at() {
        Bench.sentence("Promise 13: what 0 SORT, 1 number, 2 CHANGES. NONE - 1000000 if there are none such, or another "
            + "what (nothing is REPLAYED then)");
        RunsBack x = at28();
        for (int t : new int[] {MIN, -1, 29, 3001, MAX}) due("at(" + t + ")", x.at(t, 0, 0), NO);
        for (int p : NO_PLACES) due("at(15, " + p + ")", x.at(15, p, 0), NO);
        for (int w : new int[] {MIN, -1, 3, MAX}) due("at(15, 0, " + w + ")", x.at(15, 0, w), NO);
        due("nothing is REPLAYED", x.look(2), 0);
        int[] want = {WHOLE, 9, 10};
        for (int w = 0; w < 3; w++) due("at(28, 0, " + w + ")", x.at(28, 0, w), want[w]);
        for (int p = 0; p < 40; p++) due("at(0, " + p + ", 0)", x.at(0, p, 0), NOTHING);
        due("at(27, 39, 2)", x.at(27, 39, 2), 0);
        due("REPLAYED", x.look(2), 3);
    }

    private static void state() {
        Bench.sentence("Promise 14: what 0 COUNTER, 1 how many are on the STACK, 2 OUTS, 3 CHECK, 4 the kind of the "
            + "INSTRUCTION at the COUNTER (NONE) .. NONE - 1000000 likewise");
        RunsBack x = at28();
        for (int t : new int[] {MIN, -1, 29, MAX}) due("state(" + t + ")", x.state(t, 0), NO);
        for (int w : new int[] {MIN, -1, 5, 9, 18, 19, MAX}) due("state(15, " + w + ")", x.state(15, w), NO);
        due("nothing is REPLAYED", x.look(2), 0);
        due("state(28, 0)", x.state(28, 0), 4);
        due("state(28, 1)", x.state(28, 1), 0);
        due("state(28, 2)", x.state(28, 2), 9);
        due("state(28, 4)", x.state(28, 4), 15);
        due("state(0, 4)", x.state(0, 4), 1);
        RunsBack y = Bench.gone(1, i(0));
        due("no INSTRUCTION", y.state(1, 4), NONE);
        due("kind 0", y.state(0, 4), 0);
        RunsBack z = Bench.with(i(15, 63));
        z.code(63, 22, 0, 0, 0);
        z.begin();
        z.run(2);
        due("at 63", z.state(1, 4), 22);
        due("at 64", z.state(2, 4), NONE);
    }

    private static void stateOfStack() {
        Bench.sentence("Promise 14: 10 and k (0 .. 7) the k-th on the STACK (0 the lowest; NONE - 1000000, but REPLAYED, if "
            + "there are not so many)");
        RunsBack x = Bench.gone(9, i(22, 0), i(17, 1));
        due("no 9th so far", x.look(1), 0);
        due("time", x.look(0), 9);
        for (int n = 0; n <= 8; n++) {
            int t = n + 1;
            for (int k = 0; k < 8; k++) {
                due("k " + k + " of " + n, x.state(t, 10 + k), k < n ? 2 : NO);
                due("REPLAYED", x.look(10), t == 8 || t == 9 ? 0 : t);
            }
        }
        RunsBack y = Bench.gone(3, i(17, 10));
        y.code(10, 17, 20, 0, 0);
        y.code(20, 17, 30, 0, 0);
        y.begin();
        y.run(3);
        due("the lowest", y.state(3, 10), 1);
        due("the next", y.state(3, 11), 11);
        due("the top", y.state(3, 12), 21);
        due("none", y.state(3, 13), NO);
    }

    private static void last() {
        Bench.sentence("Promise 15: THE LAST CHANGE. NONE without; -2 if there are none such");
        RunsBack x = at28();
        for (int t : new int[] {MIN, -1, 29, MAX}) due("last(" + t + ")", x.last(t, 0), NO_SUCH);
        for (int p : NO_PLACES) due("last(15, " + p + ")", x.last(15, p), NO_SUCH);
        due("nothing is REPLAYED", x.look(2), 0);
        due("NONE without", x.last(28, 39), NONE);
        due("NONE at 0", x.last(0, 0), NONE);
        due("the first", x.last(2, 0), 1);
        due("at 28", x.last(28, 0), 27);
    }

    private static void when() {
        Bench.sentence("Promise 16: NONE: never; -2 if there are none such (any number of a WHOLE)");
        RunsBack x = at28();
        for (int t : new int[] {MIN, -1, 29, MAX}) due("when(" + t + ")", x.when(t, 0, WHOLE, 0), NO_SUCH);
        for (int p : NO_PLACES) due("when(15, " + p + ")", x.when(15, p, WHOLE, 0), NO_SUCH);
        int[][] not = {{NOTHING, 1}, {NOTHING, -1}, {FLAG, 2}, {FLAG, -1}, {-1, 0}, {3, 0}, {MIN, 0}, {MAX, 0}};
        for (int[] v : not) due("when(15, 0, " + v[0] + ", " + v[1] + ")", x.when(15, 0, v[0], v[1]), NO_SUCH);
        due("nothing is REPLAYED", x.look(2), 0);
        for (int n : new int[] {MIN, -1, MAX}) due("never " + n, x.when(28, 0, WHOLE, n), NONE);
        due("never a FLAG 0", x.when(28, 0, FLAG, 0), NONE);
        due("never a FLAG 1", x.when(28, 0, FLAG, 1), NONE);
        due("NOTHING", x.when(28, 39, NOTHING, 0), 28);
    }

    private static void changed() {
        Bench.sentence("Promise 17: the STEP that began at t (0 .. TIME less 1) .. REGISTERS (what 0), CELLS (1) as bits. "
            + "NONE - 1000000 likewise");
        RunsBack x = Bench.begun(i(1, 7, 31), i(14, 7, 7), i(22, 0), i(0));
        due("changed(0) at 0", x.changed(0, 0), NO);
        x.run(9);
        for (int t : new int[] {MIN, -1, 4, 5, MAX}) due("changed(" + t + ")", x.changed(t, 0), NO);
        for (int w : new int[] {MIN, -1, 2, MAX}) due("changed(1, " + w + ")", x.changed(1, w), NO);
        due("nothing is REPLAYED", x.look(2), 0);
        due("changed(0, 0)", x.changed(0, 0), 128);
        due("0 and 1", x.look(10), 1);
        due("changed(0, 1)", x.changed(0, 1), 0);
        due("changed(1, 0)", x.changed(1, 0), 0);
        due("changed(1, 1)", x.changed(1, 1), MIN);
        due("changed(2, 0)", x.changed(2, 0), 0);
        due("changed(3, 0)", x.changed(3, 0), 0);
        due("3, and 4 is there", x.look(10), 3);
    }

    private static void changedByPokes() {
        Bench.sentence("Promise 17: or a POKE of TIME t and 1, made other ones: those whose CHANGES at t and 1 are not "
            + "those at t");
        RunsBack x = Bench.begun(Bench.round());
        x.poke(3, WHOLE, 1);
        x.run(1);
        due("a POKE of t", x.changed(0, 0), 0);
        x.poke(3, WHOLE, 1);
        due("the same", x.changed(0, 0), 0);
        x.poke(3, WHOLE, 2);
        x.poke(8, FLAG, 0);
        x.poke(39, FLAG, 0);
        due("a POKE of t and 1", x.changed(0, 0), 8);
        due("CELLS", x.changed(0, 1), MIN + 1);
        x.poke(3, WHOLE, 1);
        due("there and back", x.changed(0, 0), 8);
        x.run(1);
        due("the next", x.changed(1, 0), 0);
        due("behind it", x.changed(0, 0), 8);
        for (int p = 0; p < 40; p++) {
            RunsBack y = Bench.gone(1, Bench.round());
            y.poke(p, FLAG, 0);
            due("registers, by " + p, y.changed(0, 0), p < 8 ? 1 << p : 0);
            due("cells, by " + p, y.changed(0, 1), p < 8 ? 0 : 1 << (p - 8));
        }
    }

    private static void watched() {
        Bench.sentence("Promise 18: NONE if there is none; -2 if t is below 1, above TIME");
        RunsBack x = Bench.begun(Bench.counting());
        for (int t : new int[] {MIN, -1, 0, 1, MAX}) due("watched(" + t + ") at 0", x.watched(t), NO_SUCH);
        x.run(28);
        for (int t : new int[] {MIN, -1, 0, 29, MAX}) due("watched(" + t + ") at 28", x.watched(t), NO_SUCH);
        due("none is WATCHED", x.watched(28), NONE);
        due("none is REPLAYED", x.look(2), 0);
        x.watch(39, true);
        due("none changed", x.watched(28), NONE);
        due("27 is REPLAYED", x.look(10), 3);
        x.watch(0, true);
        due("by t less 1", x.watched(28), 27);
        due("less than t", x.watched(27), 24);
        due("the first", x.watched(2), 1);
        due("watched(1)", x.watched(1), NONE);
    }

    private static void watchedRising() {
        Bench.sentence("Promise 18: The latest TIME less than t at which THE LAST CHANGE of a WATCHED PLACE by t less 1 was "
            + "(PLACES rising)");
        RunsBack x = Bench.begun(Bench.counting());
        x.poke(39, WHOLE, 1);
        x.run(28);
        int[] places = {0, 1, 39};
        int all = 0;
        for (int p : places) {
            x.last(27, p);
            all += x.look(10);
            x.watch(p, true);
        }
        due("the latest", x.watched(28), 27);
        due("all are REPLAYED", x.look(10), all);
        x.watch(0, false);
        due("of the others", x.watched(28), 2);
        x.watch(1, false);
        due("by a POKE at 0", x.watched(28), 0);
        due("by a POKE at 0", x.watched(1), 0);
    }

    // ---- promises 19 to 25: what is read ----

    private static void rests() {
        Bench.sentence("Promise 19: i NONE: how many. NONE if there is none such; -2 if there are no such t, PLACE. (Nothing "
            + "is counted as REPLAYED)");
        RunsBack x = at28();
        x.at(27, 0, 0);
        for (int t : new int[] {MIN, -1, 29, MAX}) due("rests(" + t + ")", x.rests(t, 0, NONE), NO_SUCH);
        for (int p : NO_PLACES) due("rests(15, " + p + ")", x.rests(15, p, NONE), NO_SUCH);
        due("how many", x.rests(28, 0, NONE), 11);
        int[] steps = {0, 1, 2, 5, 8, 11, 14, 17, 20, 23, 26};
        for (int n = 0; n < 11; n++) due("rising", x.rests(28, 0, n), steps[n]);
        for (int n : new int[] {MIN, -2, 11, 12, MAX}) due("rests(28, 0, " + n + ")", x.rests(28, 0, n), NONE);
        due("none", x.rests(28, 39, NONE), 0);
        due("none", x.rests(28, 39, 0), NONE);
        due("in all", x.look(2), 3);
        due("of the latest", x.look(10), 3);
    }

    private static void hangs() {
        Bench.sentence("Promise 20: REGISTERS (what 0), CELLS (1) as bits. NONE - 1000000 if there are none such, or another "
            + "what");
        RunsBack x = Bench.begun(i(1, 0, 31), i(14, 0, 7), i(13, 6, 0), i(0));
        due("an empty LOG", x.hangs(0, 0, 0), NO);
        x.poke(7, FLAG, 1);
        x.run(9);
        x.at(3, 0, 0);
        for (int k : new int[] {MIN, -1, 1, 2, MAX}) due("hangs(" + k + ")", x.hangs(k, 0, 0), NO);
        for (int t : new int[] {MIN, -1, 5, MAX}) due("hangs(0, " + t + ")", x.hangs(0, t, 0), NO);
        for (int w : new int[] {MIN, -1, 2, MAX}) due("hangs(0, 0, " + w + ")", x.hangs(0, 0, w), NO);
        due("registers at 4", x.hangs(0, 4, 0), 128 + 64);
        due("registers at 2", x.hangs(0, 2, 0), 128);
        due("cells at 1", x.hangs(0, 1, 1), 0);
        due("cells at 2", x.hangs(0, 2, 1), MIN);
        for (int p = 0; p < 40; p++) {
            RunsBack y = Bench.begun(Bench.round());
            y.poke(p, FLAG, 0);
            due("registers, by " + p, y.hangs(0, 0, 0), p < 8 ? 1 << p : 0);
            due("cells, by " + p, y.hangs(0, 0, 1), p < 8 ? 0 : 1 << (p - 8));
        }
        due("in all", x.look(2), 3);
        due("of the latest", x.look(10), 3);
    }

    private static void history() {
        Bench.sentence("Promise 21: the k-th what 0 the TIME, 1 SORT, 2 number behind it; k NONE: how many. NONE - 1000000 "
            + "if there is none such, or another what");
        RunsBack x = Bench.begun(i(2, 0, 1), i(2, 0, 1), i(1, 0, 1), i(22, 0), i(0));
        due("none", x.history(0, NONE, 0), 0);
        due("the first of none", x.history(0, 0, 0), NO);
        x.run(9);
        for (int p : NO_PLACES) {
            due("history(" + p + ")", x.history(p, 0, 0), NO);
            due("history(" + p + ", NONE)", x.history(p, NONE, 0), NO);
        }
        int[][] want = {{1, FLAG, 1}, {3, WHOLE, 1}, {4, NOTHING, 0}};
        due("how many", x.history(0, NONE, 0), 3);
        for (int k = 0; k < 3; k++) {
            for (int w = 0; w < 3; w++) due("history(0, " + k + ", " + w + ")", x.history(0, k, w), want[k][w]);
        }
        for (int k : new int[] {MIN, -2, 3, 4, MAX}) due("history(0, " + k + ")", x.history(0, k, 0), NO);
        for (int w : new int[] {MIN, -1, 3, MAX}) {
            due("history(0, 0, " + w + ")", x.history(0, 0, w), NO);
            due("history(0, NONE, " + w + ")", x.history(0, NONE, w), NO);
        }
        due("nothing is counted", x.look(2), 0);
    }

    private static void historyOfPokes() {
        Bench.sentence("Promise 21: TIMES (rising) at which CHANGES of a PLACE are others than at the TIME ahead (0: above "
            + "0) up to the RUN's TIME");
        RunsBack x = Bench.begun(Bench.round());
        x.poke(39, WHOLE, 1);
        x.poke(39, WHOLE, 2);
        x.poke(8, NOTHING, 0);
        due("of 0", x.history(39, NONE, 0), 1);
        due("of 0", x.history(39, 0, 0), 0);
        due("behind all of them", x.history(39, 0, 2), 2);
        due("no change", x.history(8, NONE, 0), 0);
        x.run(3);
        x.poke(39, WHOLE, 2);
        due("the same", x.history(39, NONE, 0), 1);
        x.poke(39, FLAG, 1);
        x.poke(39, WHOLE, 2);
        due("there and back", x.history(39, NONE, 0), 2);
        due("at the RUN's TIME", x.history(39, 1, 0), 3);
        due("behind it", x.history(39, 1, 2), 2);
        x.back(2);
        due("behind BACK", x.history(39, NONE, 0), 1);
    }

    private static void done() {
        Bench.sentence("Promise 22: STEPS that began at TIMES below t .. at a place (0 .. 64) of the PROGRAM (also ones that "
            + "TRAPPED). -2 if there are none such");
        RunsBack x = Bench.with(i(22, 0), i(15, 63));
        x.code(63, 22, 0, 0, 0);
        x.begin();
        x.run(9);
        due("trapped at 64", x.look(1), 15);
        for (int t : new int[] {MIN, -1, 5, MAX}) due("done(" + t + ")", x.done(t, 0), NO_SUCH);
        for (int at : new int[] {MIN, -1, 65, MAX}) due("done(4, " + at + ")", x.done(4, at), NO_SUCH);
        due("done(0, 0)", x.done(0, 0), 0);
        due("done(1, 0)", x.done(1, 0), 1);
        due("done(2, 63)", x.done(2, 63), 0);
        due("done(3, 63)", x.done(3, 63), 1);
        due("done(3, 64)", x.done(3, 64), 0);
        due("done(4, 64)", x.done(4, 64), 1);
        due("done(4, 5)", x.done(4, 5), 0);
        RunsBack y = at28();
        due("all of 2", y.done(28, 2), 9);
        due("nothing is counted", y.look(2), 0);
    }

    private static void call() {
        Bench.sentence("Promise 23: what 0 the TIME at which it began, 1 p, 2 how many were on the STACK; k NONE: how many. "
            + "NONE if there is none such, or another what");
        RunsBack x = Bench.begun(Bench.calling());
        due("none", x.call(NONE, 0), 0);
        due("the first of none", x.call(0, 0), NONE);
        x.run(4);
        for (int w = 0; w < 3; w++) due("how many", x.call(NONE, w), 2);
        int[] want = {3, 2, 0};
        for (int w = 0; w < 3; w++) due("call(1, " + w + ")", x.call(1, w), want[w]);
        for (int k : new int[] {MIN, -2, 2, 3, MAX}) due("call(" + k + ")", x.call(k, 0), NONE);
        for (int w : new int[] {MIN, -1, 3, MAX}) {
            due("call(1, " + w + ")", x.call(1, w), NONE);
            due("call(NONE, " + w + ")", x.call(NONE, w), NONE);
        }
    }

    private static void log() {
        Bench.sentence("Promise 24: what 0 TIME, 1 0 INPUT, 1 DRAW, 2 POKE, 2 the number, 3 the PLACE (POKE; else NONE), 4 "
            + "the SORT; k NONE: how many. NONE - 1000000 if there is none such, or another what");
        RunsBack x = Bench.begun(i(19, 0), i(20, 0, 1), i(0));
        for (int w = 0; w < 5; w++) due("none", x.log(NONE, w), 0);
        due("the first of none", x.log(0, 0), NO);
        x.give(-3);
        x.run(9);
        x.poke(0, NOTHING, 0);
        int[][] want = {{0, 0, -3, NONE, WHOLE}, {1, 1, 0, NONE, WHOLE}, {3, 2, 0, 0, NOTHING}};
        for (int k = 0; k < 3; k++) {
            for (int w = 0; w < 5; w++) due("log(" + k + ", " + w + ")", x.log(k, w), want[k][w]);
        }
        for (int k : new int[] {MIN, -2, 3, 4, MAX}) due("log(" + k + ")", x.log(k, 0), NO);
        for (int w : new int[] {MIN, -1, 5, MAX}) {
            due("log(0, " + w + ")", x.log(0, w), NO);
            due("log(NONE, " + w + ")", x.log(NONE, w), NO);
        }
    }

    private static void held() {
        Bench.sentence("Promise 25: what 0 its TIME, 1 the TIME at which it goes (NONE: never); k NONE: how many. NONE if "
            + "there is none such, or another what");
        RunsBack x = at28();
        int[][] want = {{0, NONE}, {16, 48}, {24, 40}};
        for (int w = 0; w < 2; w++) due("how many", x.held(NONE, w), 3);
        for (int k = 0; k < 3; k++) {
            for (int w = 0; w < 2; w++) due("held(" + k + ", " + w + ")", x.held(k, w), want[k][w]);
        }
        for (int k : new int[] {MIN, -2, 3, 4, MAX}) {
            due("held(" + k + ", 0)", x.held(k, 0), NONE);
            due("held(" + k + ", 1)", x.held(k, 1), NONE);
        }
        for (int w : new int[] {MIN, -1, 2, MAX}) {
            due("held(1, " + w + ")", x.held(1, w), NONE);
            due("held(NONE, " + w + ")", x.held(NONE, w), NONE);
        }
        RunsBack y = Bench.spaced(64, 8, Bench.round());
        Bench.go(y, 3000);
        due("2944 goes, by the rule", y.held(y.held(NONE, 0) - 1, 1), 2944 + 8 * 2 * 64);
    }

    // ---- promises 26 to 28: what spacings would do ----

    private static void would() {
        Bench.sentence("Promise 26: How many would be HELD at TIME t (0 .. 3000) by a UNIT and DEPTH, without BACK. NONE if "
            + "one can't be");
        RunsBack x = new RunsBack();
        for (int u : new int[] {MIN, -1, 0, 65, MAX}) due("unit " + u, x.would(u, 2, 9), NONE);
        for (int d : new int[] {MIN, -1, 0, 9, MAX}) due("depth " + d, x.would(8, d, 9), NONE);
        for (int t : new int[] {MIN, -1, 3001, MAX}) due("t " + t, x.would(8, 2, t), NONE);
        due("at 0", x.would(1, 1, 0), 1);
        due("64, 8 at 63", x.would(64, 8, 63), 1);
        due("64, 8 at 64", x.would(64, 8, 64), 2);
        int[] ones = {1, 2, 2, 3, 2, 3, 3, 4, 2};
        for (int t = 0; t < ones.length; t++) due("1, 1 at " + t, x.would(1, 1, t), ones[t]);
        due("8, 2 at 23", x.would(8, 2, 23), 3);
        due("8, 2 at 24", x.would(8, 2, 24), 3);
        for (int[] s : new int[][] {{1, 1}, {1, 8}, {64, 1}, {64, 8}}) {
            RunsBack y = Bench.spaced(s[0], s[1], Bench.round());
            for (int n = 0; n <= 6; n++) {
                due("as a RUN has it", x.would(s[0], s[1], 500 * n), y.held(NONE, 0));
                y.run(500);
            }
        }
        due("a RUN's spacing is another's", x.look(4), 0);
    }

    private static void gap() {
        Bench.sentence("Promise 27: The most STEPS that would be REPLAYED for any TIME up to t (0 .. 3000; t itself as if it "
            + "were not there) .. NONE if one can't be");
        RunsBack x = new RunsBack();
        for (int u : new int[] {MIN, -1, 0, 65, MAX}) due("unit " + u, x.gap(u, 2, 9), NONE);
        for (int d : new int[] {MIN, -1, 0, 9, MAX}) due("depth " + d, x.gap(8, d, 9), NONE);
        for (int t : new int[] {MIN, -1, 3001, MAX}) due("t " + t, x.gap(8, 2, t), NONE);
        due("at 0", x.gap(64, 8, 0), 0);
        due("t itself", x.gap(64, 8, 1), 1);
        due("t itself", x.gap(64, 8, 63), 63);
        due("64 is HELD", x.gap(64, 8, 64), 63);
        due("128 is HELD", x.gap(64, 8, 128), 63);
        int[] ones = {0, 0, 1, 1, 3, 3, 3, 3, 7};
        for (int t = 0; t < ones.length; t++) due("1, 1 at " + t, x.gap(1, 1, t), ones[t]);
        due("8, 2 at 23", x.gap(8, 2, 23), 7);
        due("8, 2 at 24", x.gap(8, 2, 24), 15);
        due("1, 1 at 2048", x.gap(1, 1, 2048), 2047);
        due("1, 1 at 3000", x.gap(1, 1, 3000), 2047);
        for (int[] s : new int[][] {{1, 1}, {1, 8}, {3, 2}, {7, 8}, {63, 1}, {64, 8}}) {
            for (int t : new int[] {1, 63, 64, 65, 447, 448, 1000, 2999, 3000}) {
                TreeSet<Integer> units = Bench.heldUnits(s[0], s[1], t);
                int most = 0;
                for (int u = 0; u <= t; u++) most = Math.max(most, u - units.floor(u / s[0]) * s[0]);
                due("gap(" + s[0] + ", " + s[1] + ", " + t + ")", x.gap(s[0], s[1], t), most);
            }
        }
    }

    private static void sparing() {
        Bench.sentence("Promise 28: The least UNIT (1 .. 64) by which, with a DEPTH, at TIME t no more than so many would be "
            + "HELD. NONE if there is none, or one can't be");
        RunsBack x = new RunsBack();
        for (int d : new int[] {MIN, -1, 0, 9, MAX}) due("depth " + d, x.sparing(d, 9, 9), NONE);
        for (int t : new int[] {MIN, -1, 3001, MAX}) due("t " + t, x.sparing(2, t, 9), NONE);
        for (int many : new int[] {MIN, -1, 0}) due("many " + many, x.sparing(2, 9, many), NONE);
        due("at 0", x.sparing(1, 0, 1), 1);
        due("any", x.sparing(8, 3000, MAX), 1);
        due("one at 63", x.sparing(8, 63, 1), 64);
        due("one at 62", x.sparing(8, 62, 1), 63);
        due("one at 64", x.sparing(8, 64, 1), NONE);
        due("two at 64", x.sparing(8, 64, 2), 33);
        due("as many as there are", x.sparing(2, 3000, x.would(1, 2, 3000)), 1);
        due("one fewer", x.sparing(2, 3000, x.would(1, 2, 3000) - 1) > 1, true);
        int least = 64;
        for (int u = 1; u <= 64; u++) least = Math.min(least, x.would(u, 8, 3000));
        due("the fewest of all", x.sparing(8, 3000, least) >= 1, true);
        due("fewer than that", x.sparing(8, 3000, least - 1), NONE);
    }

    // ---- promises 29 to 31: two runs ----

    private static void align() {
        Bench.sentence("Promise 29: Two RUNS (KEPT ones, NONE: NOW): how many PAIRS. -2 if there are none such");
        RunsBack x = Bench.gone(9, Bench.calling());
        for (int r : new int[] {MIN, -2, 0, 3, 4, MAX}) {
            due("align(" + r + ", NONE)", x.align(r, NONE), NO_SUCH);
            due("align(NONE, " + r + ")", x.align(NONE, r), NO_SUCH);
        }
        due("itself", x.align(NONE, NONE), 3);
        for (int k = 0; k < 4; k++) {
            x.keep();
            x.run(3);
        }
        due("0 and 3", x.align(0, 3), 3);
        due("3 and 0", x.align(3, 0), 3);
        due("3 and NOW", x.align(3, NONE), 6);
        due("NOW", x.align(NONE, NONE), 7);
        for (int r : new int[] {MIN, -2, 4, MAX}) due("align(0, " + r + ")", x.align(0, r), NO_SUCH);
        x.use(2);
        due("whichever is asked", x.align(NONE, NONE), 7);
        due("nothing is counted", x.look(2), 0);
    }

    private static void pair() {
        Bench.sentence("Promise 30: NONE - 1000000 if there is none such, or another what");
        RunsBack x = Bench.gone(9, Bench.calling());
        x.keep();
        for (int r : new int[] {MIN, -2, 1, 4, MAX}) {
            due("pair(" + r + ", NONE)", x.pair(r, NONE, 0, 0), NO);
            due("pair(NONE, " + r + ")", x.pair(NONE, r, 0, 0), NO);
        }
        for (int n : new int[] {MIN, -1, 3, 4, 99, 100, MAX}) {
            for (int w = 0; w < 4; w++) due("pair(0, NONE, " + n + ")", x.pair(0, NONE, n, w), NO);
        }
        for (int w : new int[] {MIN, -1, 4, MAX}) due("what " + w, x.pair(0, NONE, 1, w), NO);
        due("nothing is REPLAYED", x.look(2), 0);
        for (int n = 0; n < 3; n++) {
            due("of the one", x.pair(0, NONE, n, 0), n);
            due("of the other", x.pair(0, NONE, n, 1), n);
        }
        x.begin();
        due("no CALLS", x.pair(0, NONE, 0, 0), NO);
    }

    private static void pairReplays() {
        Bench.sentence("Promise 30: (of 2, 3 REPLAYED: the one, then the other one; of 0, 1 nothing)");
        RunsBack x = Bench.gone(28, Bench.calling());
        x.keep();
        x.back(4);
        x.at(3, 0, 0);
        for (int w = 0; w < 2; w++) {
            x.pair(0, NONE, 1, w);
            due("of 0, 1 nothing", x.look(10), 0);
        }
        for (int w = 2; w < 4; w++) {
            x.pair(0, NONE, 1, w);
            due("of 2, 3", x.look(10), 3 + 3);
        }
        x.pair(NONE, NONE, 1, 2);
        due("itself twice", x.look(10), 6);
        due("in all of NOW", x.look(2), 4 + 3 + 6 + 6);
        x.use(0);
        due("in all of the KEPT one", x.look(2), 6);
        x.use(NONE);
        x.back(3);
        x.run(1);
        x.back(3);
        x.poke(0, WHOLE, 5);
        x.run(1);
        due("registers", x.pair(0, NONE, 1, 2), 1);
        due("the other way", x.pair(NONE, 0, 1, 2), 1);
        due("cells", x.pair(0, NONE, 1, 3), 0);
    }

    private static void pairBits() {
        Bench.sentence("Promise 30: 2 UNLIKE REGISTERS, 3 UNLIKE CELLS as bits");
        for (int p = 0; p < 40; p++) {
            RunsBack x = Bench.gone(1, Bench.calling());
            x.keep();
            x.back(0);
            x.poke(p, FLAG, 0);
            x.run(1);
            due("registers, by " + p, x.pair(0, NONE, 0, 2), p < 8 ? 1 << p : 0);
            due("cells, by " + p, x.pair(0, NONE, 0, 3), p < 8 ? 0 : 1 << (p - 8));
            due("cells, the other way", x.pair(NONE, 0, 0, 3), p < 8 ? 0 : 1 << (p - 8));
        }
    }

    private static void parts() {
        Bench.sentence("Promise 31: NONE if they are not; -2 if there are none such");
        RunsBack x = Bench.gone(28, Bench.counting());
        for (int r : new int[] {MIN, -2, 0, 3, 4, MAX}) {
            due("parts(" + r + ", NONE)", x.parts(r, NONE), NO_SUCH);
            due("parts(NONE, " + r + ")", x.parts(NONE, r), NO_SUCH);
        }
        due("itself", x.parts(NONE, NONE), NONE);
        x.keep();
        x.run(5);
        due("of all TIMES that both have", x.parts(0, NONE), NONE);
        due("the other way", x.parts(NONE, 0), NONE);
        due("1", x.parts(0, 1), NO_SUCH);
        x.begin();
        due("0 alone", x.parts(0, NONE), NONE);
        x.poke(39, FLAG, 0);
        due("at 0", x.parts(0, NONE), 0);
        due("nothing is counted", x.look(2), 0);
        Bench.sentence("Promise 31: The least TIME at which STATES of two RUNS are unlike (behind two others)");
        RunsBack y = Bench.begun(Bench.round());
        y.poke(5, WHOLE, 1);
        y.poke(6, WHOLE, 1);
        y.keep();
        due("alike", y.parts(0, NONE), NONE);
        y.begin();
        y.poke(6, WHOLE, 1);
        due("5 is unlike", y.parts(0, NONE), 0);
        due("the other way", y.parts(NONE, 0), 0);
        y.begin();
        y.poke(5, WHOLE, 1);
        due("6 is unlike", y.parts(0, NONE), 0);
        due("the other way", y.parts(NONE, 0), 0);
        y.poke(6, WHOLE, 1);
        due("alike", y.parts(NONE, 0), NONE);
    }

    private static void partsByEach() {
        Bench.sentence("Promise 31: The least TIME at which STATES of two RUNS are unlike (VALUES, COUNTER, STACK), of all "
            + "TIMES that both have (from 0 on)");
        RunsBack x = Bench.gone(20, Bench.counting());
        x.keep();
        x.poke(39, WHOLE, 0);
        due("at the last TIME of both", x.parts(0, NONE), 20);
        x.back(19);
        due("no more", x.parts(0, NONE), NONE);
        x.poke(0, FLAG, 0);
        x.poke(0, WHOLE, x.at(18, 0, 1));
        due("the VALUES alone", x.parts(0, NONE), NONE);
        x.poke(0, FLAG, 1);
        due("a VALUE", x.parts(0, NONE), 19);
        Bench.sentence("Promise 31: .. unlike (.. COUNTER ..)");
        RunsBack y = Bench.gone(3, i(22, 0), i(15, 5));
        y.keep();
        y.code(1, 15, 6, 0, 0);
        y.begin();
        y.run(3);
        due("COUNTER", y.parts(0, NONE), 2);
        stacksAlone();
    }

    /** The values and counters are alike, and what is on the stack isn't. */
    private static void stacksAlone() {
        Bench.sentence("Promise 31: .. unlike (.. STACK)");
        RunsBack x = Bench.begun(i(17, 4), i(0), i(0), i(0), i(18));
        x.run(1);
        x.keep();
        x.code(0, 15, 4, 0, 0);
        x.begin();
        x.run(1);
        due("one on the STACK, or none", x.parts(0, NONE), 1);
        due("none on the STACK, or one", x.parts(NONE, 0), 1);
        RunsBack y = Bench.gone(8, i(22, 0), i(17, 1));
        y.keep();
        due("the same STACKS", y.parts(0, NONE), NONE);
        y.begin();
        y.run(9);
        due("the same STACKS", y.parts(0, NONE), NONE);
        due("the same STACKS", y.parts(NONE, NONE), NONE);
        y.begin();
        y.run(5);
        y.keep();
        y.code(1, 15, 1, 0, 0);
        y.begin();
        y.run(5);
        due("four on the STACK, or none", y.parts(1, NONE), 2);
        due("none on the STACK, or four", y.parts(NONE, 1), 2);
        RunsBack z = Bench.gone(5, i(17, 1), i(17, 2), i(18), i(0));
        z.keep();
        z.code(2, 15, 1, 0, 0);
        z.code(1, 15, 2, 0, 0);
        z.begin();
        z.run(5);
        due("two on the STACK, or one", z.parts(0, NONE), 2);
        due("one on the STACK, or two", z.parts(NONE, 0), 2);
    }

    // ---- promise 32 ----

    private static void look() {
        Bench.sentence("Promise 32: NONE - 1000000 for another what; 0 to 6 without a RUN: 0");
        RunsBack x = new RunsBack();
        for (int w : new int[] {MIN, -1, 13, 14, MAX}) due("look(" + w + ")", x.look(w), NO);
        for (int w = 0; w <= 6; w++) due("look(" + w + ")", x.look(w), 0);
        due("X", x.look(9), 1);
        x.begin();
        int[] want = {0, 0, 0, 1, 8, 2, 0};
        for (int w = 0; w <= 6; w++) due("look(" + w + ") of a RUN", x.look(w), want[w]);
        for (int w : new int[] {MIN, -1, 13, MAX}) due("look(" + w + ")", x.look(w), NO);
    }

    private static void lookMost() {
        Bench.sentence("Promise 32: 3 the most that were HELD at once (behind a TIME's coming, what goes by it gone)");
        RunsBack x = Bench.spaced(1, 1, Bench.round());
        int[] most = {1, 2, 2, 3, 3, 3, 3, 4, 4, 4};
        for (int t = 0; t < most.length; t++) {
            due("most by " + t, x.look(3), most[t]);
            x.run(1);
        }
        x.back(0);
        due("behind BACK", x.look(3), 4);
        x.begin();
        due("of the next RUN", x.look(3), 1);
        for (int[] s : new int[][] {{1, 8}, {1, 7}, {2, 3}, {64, 8}}) {
            RunsBack y = Bench.spaced(s[0], s[1], Bench.round());
            Bench.go(y, 3000);
            due("by 3000", y.look(3), Bench.mostHeld(s[0], s[1], 3000));
        }
    }

    private static void lookAtKept() {
        Bench.sentence("Promise 32: Of the RUN asked: 0 TIME .. 6 how often BACK. Else: 7 ..");
        RunsBack x = Bench.spaced(4, 3, i(19, 0), i(15, 0));
        x.give(1);
        x.give(2);
        x.run(4);
        x.back(3);
        x.keep();
        x.spacing(5, 5);
        x.begin();
        x.give(3);
        x.use(0);
        int[] want = {3, 0, 3, 2, 4, 3, 1, 1, 1};
        for (int w = 0; w < want.length; w++) due("look(" + w + ")", x.look(w), want[w]);
        x.use(NONE);
        int[] now = {0, 0, 0, 1, 5, 5, 0, 1, 1};
        for (int w = 0; w < now.length; w++) due("look(" + w + ") of NOW", x.look(w), now[w]);
    }

    private static void lookLatest() {
        Bench.sentence("Promise 32: 10 STEPS REPLAYED by the latest call of at(), state(), last(), when(), changed(), "
            + "watched(), pair(), back()");
        RunsBack x = at28();
        due("none so far", x.look(10), 0);
        x.at(15, 0, 0);
        x.rests(15, 0, NONE);
        x.history(0, NONE, 0);
        x.done(15, 0);
        x.call(NONE, 0);
        x.log(NONE, 0);
        x.held(NONE, 0);
        x.would(8, 2, 9);
        x.gap(8, 2, 9);
        x.sparing(2, 9, 9);
        x.align(NONE, NONE);
        x.parts(NONE, NONE);
        x.poke(9, WHOLE, 1);
        x.hangs(0, 15, 0);
        x.run(1);
        x.give(1);
        x.seed(1);
        x.watch(0, true);
        x.keep();
        x.use(0);
        x.code(0, 0, 0, 0, 0);
        x.spacing(1, 1);
        x.begin();
        due("these leave it", x.look(10), 15);
        x.state(28, 0);
        due("but state() not", x.look(10), 4);
        x.state(29, 0);
        due("nor one without REPLAY", x.look(10), 0);
    }
}
