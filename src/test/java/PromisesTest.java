/** Each promise by hand: ordinary calls, the edges that the document names, wrong inputs. */
public final class PromisesTest {
    private static final int NO = -1000001;
    private static final int MIN = Integer.MIN_VALUE;
    private static final int MAX = Integer.MAX_VALUE;
    private static int wrong = 0;

    private static void due(int promise, String call, long got, long want) {
        if (got != want) {
            wrong++;
            System.out.println("promise " + promise + ": " + call + " answered " + got + ", due is " + want);
        }
    }

    private static void due(int promise, String call, boolean got, boolean want) {
        due(promise, call, got ? 1 : 0, want ? 1 : 0);
    }

    public static void main(String[] args) {
        newObject();
        code();
        codeOfEachKind();
        spacing();
        begin();
        give();
        seed();
        poke();
        run();
        runOfEachKind();
        runTraps();
        runLimits();
        watch();
        back();
        backGivesInputsAgain();
        keep();
        use();
        at();
        state();
        last();
        when();
        changed();
        watched();
        rests();
        hangs();
        history();
        done();
        call();
        log();
        held();
        would();
        gap();
        sparing();
        align();
        pair();
        parts();
        look();
        System.out.println(wrong == 0 ? "all answers are as due" : wrong + " answers are not as due");
        if (wrong != 0) System.exit(1);
    }

    /** A new object with these instructions from 0 on. */
    private static RunsBack with(int[]... rows) {
        RunsBack x = new RunsBack();
        load(x, rows);
        return x;
    }

    private static void load(RunsBack x, int[]... rows) {
        for (int i = 0; i < rows.length; i++) {
            int[] r = {0, 0, 0, 0};
            System.arraycopy(rows[i], 0, r, 0, rows[i].length);
            if (!x.code(i, r[0], r[1], r[2], r[3])) throw new IllegalArgumentException("row " + i);
        }
    }

    private static int[] i(int... row) {
        return row;
    }

    /** A run that has begun and gone n steps. */
    private static RunsBack gone(int n, int[]... rows) {
        RunsBack x = with(rows);
        x.begin();
        for (int left = n; left > 0; left -= 500) x.run(Math.min(500, left));
        return x;
    }

    /** Counts in register 0 for ever: 0 at time 1, 1 at time 3, each 3 steps one more. */
    private static int[][] counting() {
        return new int[][] {i(1, 0, 0), i(1, 1, 1), i(4, 0, 0, 1), i(21, 0), i(15, 2)};
    }

    private static void newObject() {
        RunsBack x = new RunsBack();
        due(1, "NONE", RunsBack.NONE, -1);
        for (int w = 0; w <= 8; w++) due(1, "look(" + w + ")", x.look(w), 0);
        due(1, "X", x.look(9), 1);
        due(1, "at", x.at(0, 0, 0), NO);
        due(1, "align", x.align(-1, -1), -2);
        due(1, "begin()", x.begin(), 0);
        due(1, "unit", x.look(4), 8);
        due(1, "depth", x.look(5), 2);
        due(1, "run(5)", x.run(5), 1);
        due(1, "no instruction", x.look(1), 15);
    }

    private static void code() {
        RunsBack x = new RunsBack();
        due(2, "at -1", x.code(-1, 0, 0, 0, 0), false);
        due(2, "at 64", x.code(64, 0, 0, 0, 0), false);
        due(2, "at 64, none", x.code(64, -1, 0, 0, 0), false);
        due(2, "kind -2", x.code(0, -2, 0, 0, 0), false);
        due(2, "kind 23", x.code(0, 23, 0, 0, 0), false);
        due(2, "kind min", x.code(0, MIN, 0, 0, 0), false);
        due(2, "kind max", x.code(0, MAX, 0, 0, 0), false);
        due(2, "at 63", x.code(63, 0, 0, 0, 0), true);
        due(2, "at 0", x.code(0, 1, 3, 77, 0), true);
        due(2, "none where none is", x.code(5, -1, 99, 99, 99), true);
        due(2, "two", x.begin(), 2);
        due(2, "none", x.code(63, -1, 99, 99, 99), true);
        due(2, "refused", x.code(0, 2, 3, 2, 0), false);
        due(2, "one", x.begin(), 1);
        due(2, "the old one stands", x.state(0, 4), 1);
        due(2, "changed meanwhile", x.code(0, 2, 3, 1, 0), true);
        due(2, "the run keeps its own", x.state(0, 4), 1);
        x.run(1);
        due(2, "the run did its own", x.at(1, 3, 1), 77);
        x.begin();
        due(2, "the next has the new one", x.state(0, 4), 2);
    }

    private static void codeOfEachKind() {
        // per kind what a, b, c ask: . nothing, r a register, p an instruction, f a flag, d a draw
        String[] asks = {"...", "r..", "rf.", "rr.", "rrr", "rrr", "rrr", "rrr", "rrr", "rrr", "rrr", "rr.",
            "rrr", "rr.", "rr.", "p..", "rp.", "p..", "...", "r..", "rd.", "r..", "r.."};
        for (int kind = 0; kind < asks.length; kind++) {
            for (int which = 0; which < 3; which++) {
                for (int n : new int[] {MIN, -1, 0, 1, 2, 7, 8, 63, 64, 1000, 1001, MAX}) {
                    int[] abc = {1, 1, 1};
                    abc[which] = n;
                    char c = asks[kind].charAt(which);
                    boolean fits = c == '.' || c == 'r' && n >= 0 && n < 8 || c == 'p' && n >= 0 && n < 64
                        || c == 'f' && (n == 0 || n == 1) || c == 'd' && n >= 1 && n <= 1000;
                    RunsBack x = new RunsBack();
                    due(2, "kind " + kind + " part " + which + " " + n,
                        x.code(9, kind, abc[0], abc[1], abc[2]), fits);
                    due(2, "kind " + kind + " stands", x.begin(), fits ? 1 : 0);
                }
            }
        }
    }

    private static void spacing() {
        RunsBack x = new RunsBack();
        due(3, "0, 2", x.spacing(0, 2), false);
        due(3, "65, 2", x.spacing(65, 2), false);
        due(3, "3, 0", x.spacing(3, 0), false);
        due(3, "3, 9", x.spacing(3, 9), false);
        due(3, "min, max", x.spacing(MIN, MAX), false);
        x.begin();
        due(3, "unit as it was", x.look(4), 8);
        due(3, "depth as it was", x.look(5), 2);
        due(3, "64, 8", x.spacing(64, 8), true);
        due(3, "unit of the run", x.look(4), 8);
        x.begin();
        due(3, "unit then", x.look(4), 64);
        due(3, "depth then", x.look(5), 8);
        due(3, "1, 1", x.spacing(1, 1), true);
        due(3, "wrong behind it", x.spacing(1, 9), false);
        x.begin();
        due(3, "unit 1", x.look(4), 1);
        due(3, "depth 1", x.look(5), 1);
    }

    private static void begin() {
        RunsBack x = with(i(19, 0), i(20, 1, 5), i(17, 0));
        due(4, "begin()", x.begin(), 3);
        x.give(4);
        x.give(5);
        x.run(3);
        x.keep();
        x.at(1, 0, 0);
        x.back(1);
        int drawn = x.look(9);
        due(4, "begin() anew", x.begin(), 3);
        for (int w : new int[] {0, 2, 6, 8}) due(4, "look(" + w + ") anew", x.look(w), 0);
        due(4, "status", x.look(1), 1);
        due(4, "most held", x.look(3), 1);
        due(4, "held", x.held(-1, 0), 1);
        due(4, "log", x.log(-1, 0), 0);
        due(4, "calls", x.call(-1, 0), 0);
        due(4, "place", x.at(0, 0, 0), 0);
        due(4, "changes", x.at(0, 0, 2), 0);
        due(4, "history", x.history(0, -1, 0), 0);
        x.run(1);
        x.poke(5, 2, 5);
        due(4, "nothing hangs of old", x.hangs(0, 0, 0), 32);
        due(4, "kept stays", x.look(7), 1);
        due(4, "X stays", x.look(9), drawn);
        x.use(0);
        x.begin();
        due(4, "the one asked stays", x.look(0), 3);
    }

    private static void give() {
        RunsBack x = with(i(19, 0), i(15, 0));
        due(5, "no run", x.give(3), -1);
        x.begin();
        for (int n = 1; n <= 100; n++) due(5, "give", x.give(n), n);
        due(5, "101st", x.give(7), -1);
        x.run(2);
        due(5, "waits", x.look(8), 99);
        due(5, "again", x.give(MIN), 100);
        x.run(400);
        due(5, "the first", x.at(1, 0, 1), 1);
        due(5, "the last", x.at(x.look(0), 0, 1), MIN);
        due(5, "none waits", x.look(8), 0);
    }

    private static void seed() {
        RunsBack x = with(i(20, 0, 1000), i(15, 0));
        due(6, "first", x.seed(12), 1);
        due(6, "then", x.seed(MIN), 12);
        due(6, "look", x.look(9), MIN);
        x.seed(1);
        x.begin();
        x.run(1);
        due(6, "drawn", x.at(1, 0, 1), 65);
        due(6, "X", x.look(9), 1015568748);
        x.seed(-1);
        x.run(2);
        int next = -1664525 + 1013904223;
        due(6, "X then", x.look(9), next);
        due(6, "without sign", x.at(3, 0, 1), (next >>> 8) % 1000);
        x.back(0);
        due(6, "never back", x.look(9), next);
        x.run(1);
        due(6, "drawn anew", x.at(1, 0, 1), ((1664525 * next + 1013904223) >>> 8) % 1000);
    }

    private static void poke() {
        RunsBack x = with(counting());
        due(7, "no run", x.poke(0, 2, 1), -1);
        x.begin();
        int[][] bad = {{-1, 2, 1}, {40, 2, 1}, {0, -1, 0}, {0, 3, 0}, {0, 0, 1}, {0, 1, 2}, {0, 1, -1}};
        for (int[] b : bad) due(7, "bad", x.poke(b[0], b[1], b[2]), -1);
        due(7, "none logged", x.log(-1, 0), 0);
        due(7, "nothing to nothing", x.poke(39, 0, 0), 0);
        due(7, "logged", x.log(-1, 0), 1);
        due(7, "whole", x.poke(39, 2, 1), 1);
        due(7, "same", x.poke(39, 2, 1), 0);
        due(7, "another sort", x.poke(39, 1, 1), 1);
        due(7, "changes", x.at(0, 39, 2), 2);
        due(7, "sort", x.at(0, 39, 0), 1);
        x.run(4);
        x.poke(0, 2, MIN);
        due(7, "state of its time", x.at(4, 0, 1), MIN);
        due(7, "ahead", x.at(3, 0, 1), 1);
        x.run(3);
        due(7, "goes on from it", x.at(7, 0, 1), MIN + 1);
        RunsBack full = Bench.nearlyFull(i(0));
        due(7, "800th", full.poke(9, 2, 5), 1);
        due(7, "800", full.log(-1, 0), 800);
        due(7, "801st", full.poke(9, 2, 1), -1);
        full.begin();
        due(7, "of the run now", full.poke(9, 2, 1), 1);
        RunsBack y = gone(1, i(0));
        due(7, "over", y.poke(3, 1, 1), 1);
        due(7, "over still", y.look(1), 2);
    }

    private static void run() {
        RunsBack x = with(counting());
        due(8, "no run", x.run(1), -1);
        x.begin();
        due(8, "0", x.run(0), -1);
        due(8, "501", x.run(501), -1);
        due(8, "min", x.run(MIN), -1);
        due(8, "500", x.run(500), 500);
        due(8, "1", x.run(1), 1);
        due(8, "time", x.look(0), 501);
        x.watch(0, true);
        due(8, "to the watched", x.run(500), 3);
        due(8, "and on", x.run(500), 3);
        due(8, "fewer", x.run(2), 2);
        RunsBack y = gone(0, i(1, 0, 5), i(1, 0, 5), i(22, 0), i(1, 1, 2), i(0), i(0));
        y.watch(0, true);
        due(8, "becomes another", y.run(9), 1);
        due(8, "the same is passed, nothing stops", y.run(9), 2);
        due(8, "over", y.run(9), 2);
        due(8, "status 2", y.look(1), 2);
        due(8, "counter is one more", y.state(5, 0), 5);
        due(8, "over still", y.run(9), 0);
    }

    /** What a register is behind one instruction at 7, with registers and a cell poked. */
    private static void kind(int[] row, int place, int sort, int number) {
        RunsBack x = new RunsBack();
        int[] r = {0, 0, 0, 0};
        System.arraycopy(row, 0, r, 0, row.length);
        x.code(0, r[0], r[1], r[2], r[3]);
        x.begin();
        x.poke(1, 2, 17);
        x.poke(2, 2, -5);
        x.poke(3, 1, 1);
        x.poke(4, 1, 0);
        x.poke(5, 2, MIN);
        x.poke(6, 2, -1);
        x.poke(8 + 17, 1, 1);
        due(8, "run(1) of kind " + r[0], x.run(1), 1);
        due(8, "status of kind " + r[0], x.look(1), 0);
        due(8, "sort of kind " + r[0], x.at(1, place, 0), sort);
        due(8, "number of kind " + r[0], x.at(1, place, 1), number);
        due(8, "counter of kind " + r[0], x.state(1, 0), 1);
    }

    private static void runOfEachKind() {
        kind(i(1, 0, MIN), 0, 2, MIN);
        kind(i(2, 0, 1), 0, 1, 1);
        kind(i(2, 0, 0), 0, 1, 0);
        kind(i(3, 0, 3), 0, 1, 1);
        kind(i(3, 3, 0), 3, 0, 0);
        kind(i(4, 0, 1, 2), 0, 2, 12);
        kind(i(4, 0, 5, 6), 0, 2, MAX);
        kind(i(5, 0, 1, 2), 0, 2, 22);
        kind(i(6, 0, 1, 2), 0, 2, -85);
        kind(i(7, 0, 1, 2), 0, 2, -3);
        kind(i(7, 0, 5, 6), 0, 2, MIN);
        kind(i(8, 0, 1, 2), 0, 2, 2);
        kind(i(8, 0, 2, 1), 0, 2, -5);
        kind(i(8, 0, 5, 6), 0, 2, 0);
        kind(i(9, 0, 2, 1), 0, 1, 1);
        kind(i(9, 0, 1, 1), 0, 1, 0);
        kind(i(9, 0, 1, 5), 0, 1, 0);
        kind(i(10, 0, 1, 1), 0, 1, 1);
        kind(i(10, 0, 0, 4), 0, 1, 0);
        kind(i(10, 0, 0, 7), 0, 1, 1);
        kind(i(10, 0, 1, 2), 0, 1, 0);
        kind(i(11, 0, 3), 0, 1, 0);
        kind(i(11, 0, 4), 0, 1, 1);
        kind(i(12, 0, 3, 4), 0, 1, 0);
        kind(i(12, 0, 3, 3), 0, 1, 1);
        kind(i(13, 0, 1), 0, 1, 1);
        kind(i(14, 1, 2), 25, 2, -5);
        kind(i(14, 1, 0), 25, 0, 0);
        kind(i(16, 4, 9), 4, 1, 0);
        kind(i(21, 1), 1, 2, 17);
        kind(i(22, 1), 1, 0, 0);
        RunsBack x = gone(9, i(15, 2), i(0), i(2, 1, 1), i(16, 1, 5), i(0), i(17, 7), i(0), i(17, 9), i(18), i(18));
        due(8, "over by kind 0 behind calls", x.look(1), 2);
        due(8, "steps of calls", x.look(0), 8);
        due(8, "counter", x.state(8, 0), 7);
        due(8, "stack at 5", x.state(5, 11), 8);
        RunsBack y = gone(9, i(18));
        due(8, "18 with an empty stack", y.look(1), 2);
        due(8, "its counter", y.state(1, 0), 1);
        due(8, "its time", y.look(0), 1);
        RunsBack z = gone(1, i(15, 63));
        z.code(63, 17, 5, 0, 0);
        z.begin();
        z.run(2);
        due(8, "from 63 comes 64 on the stack", z.state(2, 10), 64);
        z.code(5, 18, 0, 0, 0);
        z.begin();
        due(8, "64 has no instruction", z.run(9), 4);
        due(8, "its trap", z.look(1), 15);
        due(8, "64 stays", z.state(4, 0), 64);
        due(8, "at 64", z.state(3, 0), 64);
    }

    private static void trap(int status, int[] row) {
        RunsBack x = new RunsBack();
        int[] r = {0, 0, 0, 0};
        System.arraycopy(row, 0, r, 0, row.length);
        x.code(0, r[0], r[1], r[2], r[3]);
        x.begin();
        x.poke(1, 2, 0);
        x.poke(2, 2, 32);
        x.poke(3, 1, 1);
        x.poke(5, 2, -1);
        due(8, "run(5) of kind " + r[0], x.run(5), 1);
        due(8, "trap of kind " + r[0], x.look(1), status);
        due(8, "time", x.look(0), 1);
        due(8, "counter", x.state(1, 0), 1);
        due(8, "nothing else", x.changed(0, 0) | x.changed(0, 1), 0);
        due(8, "put nothing", x.rests(1, r[1], -1), 0);
        due(8, "no more", x.run(5), 0);
        due(8, "but done", x.done(1, 0), 1);
    }

    private static void runTraps() {
        for (int k = 4; k <= 9; k++) {
            trap(11, i(k, 0, 3, 1));
            trap(11, i(k, 0, 1, 3));
            trap(11, i(k, 0, 4, 1));
        }
        trap(11, i(11, 0, 1));
        trap(11, i(12, 0, 1, 3));
        trap(11, i(12, 0, 3, 4));
        trap(11, i(13, 0, 3));
        trap(11, i(14, 3, 1));
        trap(11, i(14, 4, 1));
        trap(11, i(16, 1, 5));
        trap(11, i(16, 4, 5));
        trap(11, i(7, 0, 3, 1));
        trap(12, i(7, 0, 2, 1));
        trap(12, i(8, 0, 2, 1));
        trap(13, i(13, 0, 2));
        trap(13, i(13, 0, 5));
        trap(13, i(14, 2, 4));
        trap(13, i(14, 5, 4));
        RunsBack x = gone(20, i(17, 0));
        due(8, "9th on the stack", x.look(1), 14);
        due(8, "the step counts", x.look(0), 9);
        due(8, "eight are on it", x.state(9, 1), 8);
        due(8, "counter is one more", x.state(9, 0), 1);
        due(8, "no call of it", x.call(-1, 0), 8);
        RunsBack y = gone(5, i(15, 40));
        due(8, "no instruction", y.look(1), 15);
        due(8, "its counter", y.state(2, 0), 41);
    }

    private static void runLimits() {
        RunsBack x = gone(2900, counting());
        due(8, "to 3000", x.run(500), 100);
        due(8, "no more", x.run(500), 0);
        due(8, "not told", x.look(1), 0);
        due(8, "time", x.look(0), 3000);
        due(8, "poke then", x.poke(0, 1, 1), 1);
        due(8, "its state", x.at(3000, 0, 0), 1);
        RunsBack y = gone(2000, i(20, 0, 9), i(15, 0));
        due(8, "log is full", y.look(1), 3);
        due(8, "800 draws", y.look(0), 1600);
        int drawn = y.look(9);
        due(8, "no step", y.run(5), 0);
        due(8, "no draw", y.look(9), drawn);
        RunsBack z = gone(3, i(19, 0), i(15, 0));
        due(8, "waits", z.look(1), 1);
        due(8, "no time", z.look(0), 0);
        z.give(MIN);
        due(8, "waits no more", z.look(1), 0);
        due(8, "two steps", z.run(5), 2);
        RunsBack full = Bench.nearlyFull(i(20, 0, 5), i(19, 0));
        full.run(1);
        due(8, "waits ahead of full", full.look(1), 1);
        full.give(1);
        due(8, "full", full.look(1), 3);
    }

    private static void watch() {
        RunsBack x = new RunsBack();
        due(9, "-1", x.watch(-1, true), false);
        due(9, "40", x.watch(40, true), false);
        due(9, "not so", x.watch(7, false), false);
        due(9, "on", x.watch(7, true), true);
        due(9, "on twice", x.watch(7, true), false);
        due(9, "cell", x.watch(39, true), true);
        due(9, "cell 0", x.watch(8, true), true);
        due(9, "registers", x.look(11), 128);
        due(9, "cells", x.look(12), MIN + 1);
        due(9, "off", x.watch(39, false), true);
        due(9, "cells then", x.look(12), 1);
        x.code(0, 1, 0, 0, 0);
        x.code(1, 14, 0, 0, 0);
        x.code(2, 1, 7, 3, 0);
        x.code(3, 1, 6, 3, 0);
        x.code(4, 0, 0, 0, 0);
        x.begin();
        due(9, "cell stops", x.run(9), 2);
        due(9, "register stops", x.run(9), 1);
        x.begin();
        due(9, "of all runs", x.run(9), 2);
        x.watch(8, false);
        x.watch(7, false);
        due(9, "none stops", x.run(9), 3);
        x.begin();
        x.watch(5, true);
        x.poke(5, 2, 1);
        due(9, "a poke doesn't stop", x.run(9), 5);
    }

    private static void back() {
        RunsBack x = with(counting());
        due(10, "no run", x.back(0), -1);
        x.begin();
        due(10, "at 0", x.back(0), -1);
        x.run(30);
        due(10, "-1", x.back(-1), -1);
        due(10, "TIME", x.back(30), -1);
        due(10, "max", x.back(MAX), -1);
        due(10, "none counted", x.look(6), 0);
        due(10, "29", x.back(29), 5);
        due(10, "to a held one", x.back(24), 0);
        due(10, "counted", x.look(2), 5);
        due(10, "latest", x.look(10), 0);
        due(10, "times", x.look(6), 2);
        due(10, "time", x.look(0), 24);
        due(10, "held", x.held(-1, 0), 3);
        due(10, "to 8, which is held no more", x.back(8), 8);
        due(10, "it doesn't come back", x.held(-1, 0), 1);
        x.run(8);
        due(10, "16 is held anew", x.held(1, 0), 16);
        due(10, "most stays", x.look(3), 3);
        due(10, "value", x.at(16, 0, 1), 5);
        due(10, "outs", x.state(16, 2), 5);
        RunsBack y = gone(1, i(0));
        due(10, "over", y.look(1), 2);
        due(10, "back", y.back(0), 0);
        due(10, "status is anew", y.look(1), 0);
        y.poke(0, 2, 1);
        y.run(1);
        y.poke(0, 2, 2);
        y.poke(0, 2, 3);
        y.back(0);
        due(10, "pokes of t stay", y.log(-1, 0), 1);
        due(10, "pokes of later go", y.at(0, 0, 1), 1);
        due(10, "changes", y.at(0, 0, 2), 1);
        RunsBack z = gone(9, i(17, 2), i(0), i(17, 4), i(18), i(18));
        due(10, "two calls", z.call(-1, 0), 2);
        z.back(1);
        due(10, "one that began at 0", z.call(-1, 0), 1);
        due(10, "stack", z.state(1, 10), 1);
        z.back(0);
        due(10, "none", z.call(-1, 0), 0);
        due(10, "empty stack", z.state(0, 1), 0);
    }

    private static void backGivesInputsAgain() {
        RunsBack x = with(i(19, 0), i(20, 1, 9), i(15, 0));
        x.begin();
        for (int n = 1; n <= 5; n++) x.give(n * 10);
        x.run(9);
        due(10, "two wait", x.look(8), 2);
        x.back(3);
        due(10, "four wait", x.look(8), 4);
        due(10, "log", x.log(-1, 0), 2);
        x.run(1);
        due(10, "20 comes again", x.at(4, 0, 1), 20);
        x.run(8);
        due(10, "in their order", x.log(2, 2) * 10000 + x.log(4, 2) * 100 + x.log(6, 2), 203040);
        x.back(0);
        for (int n = 5; n < 100; n++) x.give(n);
        due(10, "100 wait", x.give(1), -1);
        x.run(150);
        for (int n = 0; n < 50; n++) x.give(n);
        x.back(0);
        due(10, "150 wait", x.look(8), 150);
        due(10, "no more", x.give(1), -1);
        x.run(451);
        due(10, "all are there", x.look(0), 450);
        due(10, "the first", x.log(0, 2), 10);
        due(10, "the last", x.log(298, 2), 49);
    }

    private static void keep() {
        RunsBack x = with(i(19, 0), i(17, 2), i(21, 0), i(15, 0));
        due(11, "no run", x.keep(), -1);
        x.begin();
        due(11, "first", x.keep(), 0);
        x.give(7);
        x.run(3);
        due(11, "second", x.keep(), 1);
        due(11, "third", x.keep(), 2);
        due(11, "fourth", x.keep(), 3);
        due(11, "fifth", x.keep(), -1);
        due(11, "kept", x.look(7), 4);
        x.run(1);
        x.give(9);
        x.run(2);
        x.poke(3, 2, 3);
        x.use(1);
        due(11, "time", x.look(0), 3);
        due(11, "log", x.log(-1, 0), 1);
        due(11, "calls", x.call(-1, 0), 1);
        due(11, "place", x.at(3, 3, 0), 0);
        due(11, "later", x.at(4, 0, 0), NO);
        due(11, "status as it was", x.look(1), 0);
        x.use(0);
        due(11, "it waited", x.look(1), 1);
        due(11, "its time", x.look(0), 0);
        x.use(-1);
        x.back(0);
        x.use(3);
        due(11, "stays", x.at(3, 0, 1), 7);
        x.begin();
        due(11, "stays still", x.at(3, 0, 1), 7);
        x.use(-1);
        due(11, "now anew", x.look(0), 0);
    }

    private static void use() {
        RunsBack x = with(counting());
        due(12, "now without a run", x.use(-1), true);
        due(12, "0", x.use(0), false);
        x.begin();
        x.run(3);
        x.keep();
        x.run(3);
        due(12, "-2", x.use(-2), false);
        due(12, "1", x.use(1), false);
        due(12, "4", x.use(4), false);
        due(12, "now", x.look(0), 6);
        due(12, "0 then", x.use(0), true);
        due(12, "kept", x.look(0), 3);
        due(12, "refused", x.use(3), false);
        due(12, "still", x.look(0), 3);
        due(12, "run is of now", x.run(1), 1);
        due(12, "still 3", x.look(0), 3);
        due(12, "replays are its own", x.at(2, 0, 0), 2);
        due(12, "count", x.look(2), 2);
        due(12, "now again", x.use(-1), true);
        due(12, "its count", x.look(2), 0);
        due(12, "its time", x.look(0), 7);
    }

    private static void at() {
        RunsBack x = gone(30, counting());
        int[][] bad = {{-1, 0, 0}, {31, 0, 0}, {0, -1, 0}, {0, 40, 0}, {0, 0, -1}, {0, 0, 3}, {MAX, MAX, MAX}};
        for (int[] b : bad) {
            x.at(29, 0, 0);
            due(13, "bad", x.at(b[0], b[1], b[2]), NO);
            due(13, "nothing replayed", x.look(10), 0);
        }
        due(13, "counted so far", x.look(2), 35);
        due(13, "sort", x.at(0, 0, 0), 0);
        due(13, "sort", x.at(1, 0, 0), 2);
        due(13, "number", x.at(23, 0, 1), 7);
        due(13, "from 16", x.look(10), 7);
        due(13, "number at a held one", x.at(24, 0, 1), 8);
        due(13, "none", x.look(10), 0);
        due(13, "changes", x.at(15, 0, 2), 6);
        due(13, "from 0", x.look(10), 15);
        due(13, "now", x.at(30, 0, 2), 11);
        due(13, "which is there", x.look(10), 0);
        x.poke(0, 2, 99);
        due(13, "behind the poke", x.at(30, 0, 1), 99);
        x.run(3);
        due(13, "of the past too", x.at(30, 0, 1), 99);
        due(13, "from 24", x.look(10), 6);
        due(13, "in all", x.look(2), 35 + 0 + 1 + 7 + 0 + 15 + 6);
    }

    private static void state() {
        RunsBack x = gone(20, i(2, 3, 1), i(21, 3), i(17, 4), i(0), i(17, 6), i(18), i(21, 0), i(17, 6));
        due(14, "trapped", x.look(1), 14);
        int end = x.look(0);
        due(14, "time", end, 18);
        due(14, "counter 0", x.state(0, 0), 0);
        due(14, "counter", x.state(3, 0), 4);
        due(14, "stack", x.state(3, 1), 1);
        due(14, "stack then", x.state(4, 1), 2);
        due(14, "outs", x.state(2, 2), 1);
        due(14, "check", x.state(2, 3), 4);
        due(14, "nothing put out", x.state(5, 2), 2);
        due(14, "its check", x.state(5, 3), 124);
        due(14, "kind", x.state(1, 4), 21);
        due(14, "kind", x.state(2, 4), 17);
        due(14, "none behind", x.state(end, 4), -1);
        due(14, "lowest", x.state(4, 10), 3);
        due(14, "above it", x.state(4, 11), 5);
        due(14, "replayed", x.look(10), 4);
        due(14, "not so many", x.state(4, 12), NO);
        due(14, "but replayed", x.look(10), 4);
        due(14, "eighth", x.state(end, 17), 8);
        for (int w : new int[] {-1, 5, 9, 18, MIN, MAX}) {
            x.state(4, 0);
            due(14, "what " + w, x.state(4, w), NO);
            due(14, "not replayed", x.look(10), 0);
        }
        due(14, "-1", x.state(-1, 0), NO);
        due(14, "later", x.state(end + 1, 0), NO);
    }

    private static void last() {
        RunsBack x = gone(10, counting());
        x.run(20);
        due(15, "now", x.last(30, 0), 30);
        due(15, "-2", x.last(31, 0), -2);
        due(15, "refused has 0", x.look(10), 0);
        due(15, "-2", x.last(-1, 0), -2);
        due(15, "-2", x.last(1, 40), -2);
        due(15, "-2", x.last(1, -1), -2);
        due(15, "none", x.last(29, 9), -1);
        due(15, "c alone was replayed", x.look(10), 5);
        due(15, "last", x.last(23, 0), 21);
        // c: 7 of 16; m 11: 11, 17: 1, 20: 4, 22: 6, 21: 5
        due(15, "replayed", x.look(10), 7 + 11 + 1 + 4 + 6 + 5);
        due(15, "first", x.last(2, 0), 1);
        due(15, "at 0", x.last(0, 0), -1);
        RunsBack y = gone(0, i(0));
        y.poke(5, 2, 1);
        due(15, "a poke at 0", y.last(0, 5), 0);
        y.poke(6, 0, 0);
        due(15, "which is no change", y.last(0, 6), -1);
        y.run(1);
        due(15, "since 0", y.last(1, 5), 0);
    }

    private static void when() {
        RunsBack x = gone(28, counting());
        int[][] bad = {{-1, 0, 2, 0}, {29, 0, 2, 0}, {0, -1, 2, 0}, {0, 40, 2, 0}, {0, 0, 3, 0}, {0, 0, -1, 0},
            {0, 0, 0, 1}, {0, 0, 1, 2}, {0, 0, 1, -1}};
        for (int[] b : bad) {
            due(16, "bad", x.when(b[0], b[1], b[2], b[3]), -2);
            due(16, "0", x.look(10), 0);
        }
        due(16, "now", x.when(28, 0, 2, 9), 28);
        due(16, "also up to now", x.look(10), 4);
        due(16, "at a held one", x.when(26, 0, 2, 8), 26);
        due(16, "between", x.look(10), 2);
        due(16, "ahead", x.when(28, 0, 2, 7), 23);
        due(16, "two of them", x.look(10), 4 + 7);
        due(16, "the first", x.when(28, 0, 0, 0), 0);
        due(16, "all", x.look(10), 4 + 7 + 15);
        due(16, "never", x.when(28, 0, 1, 1), -1);
        due(16, "all", x.look(10), 26);
        due(16, "never so far", x.when(10, 0, 2, 7), -1);
        due(16, "from 0", x.look(10), 10);
        due(16, "any number", x.when(28, 0, 2, MIN), -1);
        due(16, "nothing always", x.when(28, 30, 0, 0), 28);
        x.poke(30, 2, 5);
        x.poke(30, 2, 6);
        due(16, "no state had it", x.when(28, 30, 2, 5), -1);
        due(16, "behind the pokes", x.when(28, 30, 2, 6), 28);
        due(16, "till the one ahead", x.when(28, 30, 0, 0), 27);
    }

    private static void changed() {
        RunsBack x = with(i(1, 7, 31), i(14, 7, 7), i(1, 7, 31), i(22, 0), i(15, 0));
        due(17, "no run", x.changed(0, 0), NO);
        x.begin();
        due(17, "no step", x.changed(0, 0), NO);
        x.poke(1, 2, 4);
        x.run(4);
        due(17, "register", x.changed(0, 0), 128);
        due(17, "0 and 1", x.look(10), 1);
        due(17, "no cell", x.changed(0, 1), 0);
        due(17, "cell", x.changed(1, 1), MIN);
        due(17, "no register", x.changed(1, 0), 0);
        due(17, "1 and 2", x.look(10), 3);
        due(17, "the same", x.changed(2, 0), 0);
        due(17, "nothing stays", x.changed(3, 0), 0);
        due(17, "3 and now", x.look(10), 3);
        x.poke(2, 2, 1);
        x.poke(8, 1, 1);
        due(17, "a poke of t and 1", x.changed(3, 0), 4);
        due(17, "of a cell", x.changed(3, 1), 1);
        x.poke(2, 0, 0);
        due(17, "there and back again", x.changed(3, 0), 4);
        for (int[] b : new int[][] {{-1, 0}, {4, 0}, {0, -1}, {0, 2}, {MAX, 0}}) {
            due(17, "bad", x.changed(b[0], b[1]), NO);
            due(17, "0", x.look(10), 0);
        }
    }

    private static void watched() {
        RunsBack x = with(counting());
        due(18, "no run", x.watched(1), -2);
        x.begin();
        x.run(28);
        due(18, "0", x.watched(0), -2);
        due(18, "later", x.watched(29), -2);
        due(18, "none", x.watched(28), -1);
        due(18, "nothing replayed", x.look(10), 0);
        x.watch(1, true);
        due(18, "register 1", x.watched(28), 2);
        x.watch(0, true);
        due(18, "the later one", x.watched(28), 27);
        due(18, "less than t", x.watched(27), 24);
        x.watch(30, true);
        due(18, "the first", x.watched(2), 1);
        due(18, "none yet", x.watched(1), -1);
        x.last(26, 0);
        int zero = x.look(10);
        x.last(26, 1);
        int one = x.look(10);
        x.last(26, 30);
        int thirty = x.look(10);
        due(18, "all", x.watched(27), 24);
        due(18, "are counted", x.look(10), zero + one + thirty);
    }

    private static void rests() {
        RunsBack x = gone(0, i(1, 0, 3), i(19, 1), i(4, 2, 0, 1), i(14, 0, 2), i(1, 0, 3), i(13, 3, 0),
            i(10, 4, 3, 7), i(11, 4, 4), i(22, 5), i(4, 6, 4, 4));
        due(19, "at first", x.rests(0, 0, -1), 0);
        x.give(5);
        x.poke(7, 2, 3);
        x.run(20);
        due(19, "trapped", x.look(1), 11);
        due(19, "itself", x.rests(1, 0, -1), 1);
        due(19, "itself", x.rests(1, 0, 0), 0);
        due(19, "a sum", x.rests(3, 2, -1), 3);
        due(19, "the cell", x.rests(4, 11, -1), 4);
        due(19, "of a cell: s and the cell", x.rests(6, 3, -1), 6);
        for (int n = 0; n < 6; n++) due(19, "rising", x.rests(6, 3, n), n);
        due(19, "the end", x.rests(6, 3, 6), -1);
        due(19, "below", x.rests(6, 3, -2), -1);
        due(19, "put again", x.rests(10, 0, 0), 4);
        due(19, "as it was", x.rests(4, 0, 0), 0);
        due(19, "a poke: no step", x.rests(10, 7, -1), 0);
        due(19, "all and itself", x.rests(8, 4, -1), 8);
        due(19, "nothing is put too", x.rests(9, 5, 0), 8);
        due(19, "none of a trap", x.rests(10, 6, -1), 0);
        due(19, "-2", x.rests(11, 0, -1), -2);
        due(19, "-2", x.rests(-1, 0, -1), -2);
        due(19, "-2", x.rests(0, 40, -1), -2);
        due(19, "-2", x.rests(0, -1, -1), -2);
        x.poke(4, 1, 0);
        due(19, "a poke alone", x.rests(10, 4, -1), 0);
        due(19, "nothing is counted", x.look(2) + x.look(10), 0);
    }

    private static void hangs() {
        RunsBack x = with(i(19, 0), i(20, 1, 9), i(4, 2, 0, 1), i(1, 3, 31), i(14, 3, 2), i(3, 4, 7), i(22, 0));
        due(20, "no run", x.hangs(0, 0, 0), NO);
        x.begin();
        due(20, "no entry", x.hangs(0, 0, 0), NO);
        x.poke(7, 2, 1);
        x.give(6);
        x.run(7);
        due(20, "poke", x.hangs(0, 0, 0), 128);
        due(20, "poke and copy", x.hangs(0, 7, 0), 128 + 16);
        due(20, "input later", x.hangs(1, 0, 0), 0);
        due(20, "input", x.hangs(1, 1, 0), 1);
        due(20, "input in a sum", x.hangs(1, 3, 0), 1 + 4);
        due(20, "draw", x.hangs(2, 5, 0), 2 + 4);
        due(20, "cells", x.hangs(2, 5, 1), MIN);
        due(20, "not yet", x.hangs(2, 4, 1), 0);
        due(20, "put anew", x.hangs(1, 7, 0), 4);
        x.poke(2, 2, 8);
        due(20, "poked anew", x.hangs(1, 7, 0), 0);
        due(20, "the new poke", x.hangs(3, 7, 0), 4);
        for (int[] b : new int[][] {{-1, 0, 0}, {4, 0, 0}, {0, -1, 0}, {0, 8, 0}, {0, 0, -1}, {0, 0, 2}}) {
            due(20, "bad", x.hangs(b[0], b[1], b[2]), NO);
        }
        due(20, "nothing is counted", x.look(2), 0);
    }

    private static void history() {
        RunsBack x = with(counting());
        due(21, "no run", x.history(0, -1, 0), NO);
        x.begin();
        due(21, "none", x.history(0, -1, 0), 0);
        x.run(10);
        due(21, "many", x.history(0, -1, 0), 4);
        due(21, "time", x.history(0, 0, 0), 1);
        due(21, "number", x.history(0, 3, 2), 3);
        due(21, "sort", x.history(0, 3, 1), 2);
        due(21, "time", x.history(0, 3, 0), 9);
        due(21, "none such", x.history(0, 4, 0), NO);
        due(21, "none such", x.history(0, -2, 0), NO);
        due(21, "place", x.history(40, -1, 0), NO);
        due(21, "place", x.history(-1, -1, 0), NO);
        due(21, "what", x.history(0, 0, 3), NO);
        due(21, "what", x.history(0, 0, -1), NO);
        x.poke(0, 1, 1);
        x.poke(0, 2, 3);
        due(21, "there and back", x.history(0, 4, 0), 10);
        due(21, "behind it", x.history(0, 4, 2), 3);
        due(21, "one time", x.history(0, -1, 0), 5);
        RunsBack y = gone(0, i(0));
        y.poke(3, 1, 1);
        due(21, "of 0", y.history(3, 0, 0), 0);
        due(21, "flag", y.history(3, 0, 1), 1);
        due(21, "nothing is counted", x.look(2), 0);
    }

    private static void done() {
        RunsBack x = gone(11, counting());
        due(22, "0", x.done(11, 0), 1);
        due(22, "2", x.done(11, 2), 3);
        due(22, "below t", x.done(8, 2), 2);
        due(22, "below t", x.done(9, 2), 3);
        due(22, "none", x.done(0, 0), 0);
        due(22, "64", x.done(11, 64), 0);
        for (int[] b : new int[][] {{-1, 0}, {12, 0}, {0, -1}, {0, 65}}) due(22, "bad", x.done(b[0], b[1]), -2);
        RunsBack y = gone(2, i(15, 63));
        y.code(63, 22, 0, 0, 0);
        y.begin();
        y.run(9);
        due(22, "trapped at 64", y.done(3, 64), 1);
        due(22, "time", y.look(0), 3);
    }

    private static void call() {
        RunsBack x = with(i(17, 2), i(15, 0), i(17, 5), i(18), i(0), i(18));
        due(23, "no run", x.call(-1, 0), -1);
        x.begin();
        due(23, "none", x.call(-1, 0), 0);
        x.run(5);
        due(23, "two", x.call(-1, 2), 2);
        due(23, "time", x.call(1, 0), 1);
        due(23, "p", x.call(1, 1), 5);
        due(23, "stack", x.call(1, 2), 1);
        due(23, "p", x.call(0, 1), 2);
        due(23, "stack", x.call(0, 2), 0);
        for (int[] b : new int[][] {{-2, 0}, {2, 0}, {0, -1}, {0, 3}, {-1, 3}}) due(23, "bad", x.call(b[0], b[1]), -1);
        x.run(500);
        due(23, "the first 100", x.call(-1, 0), 100);
        due(23, "the last of them", x.call(99, 0), 49 * 5 + 1);
        due(23, "behind", x.call(100, 0), -1);
        x.back(247);
        due(23, "began ahead", x.call(-1, 0), 100);
        x.back(246);
        due(23, "began at t", x.call(-1, 0), 99);
        x.back(245);
        due(23, "back", x.call(-1, 0), 98);
        x.run(1);
        due(23, "and on", x.call(98, 0), 245);
    }

    private static void log() {
        RunsBack x = with(i(19, 0), i(20, 0, 3), i(0));
        due(24, "no run", x.log(-1, 0), NO);
        x.begin();
        x.poke(9, 1, 1);
        x.give(-8);
        x.run(1);
        x.poke(3, 0, 0);
        x.run(2);
        due(24, "many", x.log(-1, 0), 4);
        int[][] want = {{0, 2, 1, 9, 1}, {0, 0, -8, -1, 2}, {1, 2, 0, 3, 0}, {1, 1, 3967065 % 3, -1, 2}};
        for (int k = 0; k < 4; k++) {
            for (int w = 0; w < 5; w++) due(24, "entry " + k + " " + w, x.log(k, w), want[k][w]);
        }
        for (int[] b : new int[][] {{-2, 0}, {4, 0}, {0, -1}, {0, 5}, {-1, 5}}) due(24, "bad", x.log(b[0], b[1]), NO);
        x.at(2, 0, 0);
        due(24, "a replay logs nothing", x.log(-1, 0), 4);
    }

    private static void held() {
        RunsBack x = with(counting());
        due(25, "no run", x.held(-1, 0), -1);
        x.spacing(2, 1);
        x.begin();
        due(25, "0", x.held(0, 0), 0);
        due(25, "never goes", x.held(0, 1), -1);
        x.run(1);
        due(25, "one", x.held(-1, 0), 1);
        x.run(12);
        // k 1 .. 6 with depth 1: 1 goes by 2, 2 by 4, 3 by 4, 4 by 8, 5 by 6, 6 by 8
        int[] times = {0, 8, 12};
        int[] go = {-1, 16, 16};
        due(25, "many", x.held(-1, 1), 3);
        for (int k = 0; k < 3; k++) {
            due(25, "time " + k, x.held(k, 0), times[k]);
            due(25, "goes " + k, x.held(k, 1), go[k]);
        }
        for (int[] b : new int[][] {{-2, 0}, {3, 0}, {0, -1}, {0, 2}, {-1, 2}}) due(25, "bad", x.held(b[0], b[1]), -1);
        x.run(3);
        due(25, "both gone", x.held(1, 0), 16);
        due(25, "at 16", x.held(-1, 0), 2);
        due(25, "most, at 14", x.look(3), 4);
        x.back(9);
        due(25, "8 doesn't come back", x.held(-1, 0), 1);
        x.run(1);
        due(25, "10 comes", x.held(1, 0), 10);
        x.spacing(64, 8);
        due(25, "as told at the beginning", x.held(1, 1), 12);
    }

    private static void would() {
        RunsBack x = new RunsBack();
        due(26, "at 0", x.would(8, 2, 0), 1);
        due(26, "ahead of 8", x.would(8, 2, 7), 1);
        due(26, "at 8", x.would(8, 2, 8), 2);
        due(26, "at 24", x.would(8, 2, 24), 3);
        due(26, "at 23", x.would(8, 2, 23), 3);
        due(26, "2, 1 at 13", x.would(2, 1, 13), 3);
        due(26, "all of 8 units", x.would(1, 8, 8), 9);
        due(26, "1 goes at 9", x.would(1, 8, 9), 9);
        for (int[] b : new int[][] {{0, 2, 9}, {65, 2, 9}, {8, 0, 9}, {8, 9, 9}, {8, 2, -1}, {8, 2, 3001}}) {
            due(26, "bad", x.would(b[0], b[1], b[2]), -1);
            due(27, "bad", x.gap(b[0], b[1], b[2]), -1);
        }
        int[][] rows = {{1, 1}, {1, 8}, {3, 3}, {7, 5}, {64, 2}};
        for (int[] r : rows) {
            RunsBack y = with(counting());
            y.spacing(r[0], r[1]);
            y.begin();
            for (int t = 0; t <= 3000; t += 100) {
                due(26, "as it is at " + t, y.would(r[0], r[1], t), y.held(-1, 0));
                y.run(100);
            }
        }
    }

    private static void gap() {
        RunsBack x = new RunsBack();
        due(27, "at 0", x.gap(8, 2, 0), 0);
        due(27, "at 7", x.gap(8, 2, 7), 7);
        due(27, "at 8", x.gap(8, 2, 8), 7);
        due(27, "at 24: 0, 16, 24", x.gap(8, 2, 24), 15);
        due(27, "2, 1 at 13: 0, 8, 12", x.gap(2, 1, 13), 7);
        due(27, "2, 1 at 15: 0, 8, 12, 14", x.gap(2, 1, 15), 7);
        due(27, "2, 1 at 16: 0, 16", x.gap(2, 1, 16), 15);
        due(27, "64, 8 at 63", x.gap(64, 8, 63), 63);
        due(27, "1, 1 at 3000", x.gap(1, 1, 3000), 2047);
    }

    private static void sparing() {
        RunsBack x = new RunsBack();
        due(28, "none is so few", x.sparing(2, 100, 0), -1);
        due(28, "negative", x.sparing(2, 100, -5), -1);
        due(28, "all of them", x.sparing(2, 100, 1000), 1);
        due(28, "one alone", x.sparing(2, 10, 1), 11);
        due(28, "at 0", x.sparing(8, 0, 1), 1);
        due(28, "no unit is so large", x.sparing(8, 64, 1), -1);
        due(28, "unit 64", x.sparing(8, 63, 1), 64);
        for (int many = 1; many < 30; many++) {
            x = new RunsBack();
            int unit = x.sparing(3, 2000, many);
            for (int u = 1; u < (unit == -1 ? 65 : unit); u++) {
                due(28, "too many", x.would(u, 3, 2000) > many, true);
            }
            if (unit != -1) due(28, "no more than", x.would(unit, 3, 2000) <= many, true);
        }
        for (int[] b : new int[][] {{0, 5, 5}, {9, 5, 5}, {2, -1, 5}, {2, 3001, 5}}) {
            due(28, "bad", x.sparing(b[0], b[1], b[2]), -1);
        }
    }

    /** Calls 40 or 50, as each input is 1 or 0; the inputs come one by one. */
    private static RunsBack calling(String inputs) {
        RunsBack x = new RunsBack();
        callProgram(x);
        callRun(x, inputs);
        return x;
    }

    private static void callProgram(RunsBack x) {
        load(x, i(1, 1, 1), i(19, 0), i(10, 2, 0, 1), i(16, 2, 6), i(17, 50), i(15, 1), i(17, 40), i(15, 1));
        x.code(40, 18, 0, 0, 0);
        x.code(50, 18, 0, 0, 0);
    }

    private static void callRun(RunsBack x, String inputs) {
        x.begin();
        for (int n = 0; n < inputs.length(); n++) {
            x.give(inputs.charAt(n) - '0');
            x.run(100);
        }
    }

    private static void rows(String one, String other, int... pairs) {
        RunsBack x = calling(one);
        x.keep();
        callRun(x, other);
        due(29, one + " " + other, x.align(0, -1), pairs.length / 2);
        for (int n = 0; n < pairs.length; n++) {
            due(30, one + " " + other + " pair " + n / 2, x.pair(0, -1, n / 2, n % 2), pairs[n]);
        }
    }

    private static void align() {
        RunsBack x = calling("1010");
        due(29, "-2", x.align(-2, -1), -2);
        due(29, "none kept", x.align(0, -1), -2);
        due(29, "none kept", x.align(-1, 3), -2);
        due(29, "itself", x.align(-1, -1), 4);
        x.keep();
        due(29, "kept", x.align(0, 0), 4);
        due(29, "4", x.align(4, 0), -2);
        x.begin();
        due(29, "no calls", x.align(0, -1), 0);
        rows("1", "1", 0, 0);
        rows("1", "0");
        rows("10", "01", 0, 1);
        rows("01", "10", 0, 1);
        rows("1100", "0011", 0, 2, 1, 3);
        rows("1", "0111", 0, 1);
        rows("111", "1", 0, 0);
        rows("10110", "01011", 0, 1, 1, 2, 2, 3, 3, 4);
        rows("0110", "1001", 0, 1, 1, 3);
        // the same p, but another one is on the stack
        RunsBack y = with(i(17, 2), i(0), i(17, 4), i(18), i(18));
        y.begin();
        y.run(9);
        y.keep();
        y.code(0, 17, 4, 0, 0);
        y.begin();
        y.run(9);
        due(29, "unlike on the stack", y.align(0, -1), 0);
    }

    private static void pair() {
        RunsBack x = calling("10");
        x.keep();
        callRun(x, "01");
        x.use(0);
        int[][] bad = {{-2, -1, 0, 0}, {0, 1, 0, 0}, {0, -1, -1, 0}, {0, -1, 1, 0}, {0, -1, 0, -1}, {0, -1, 0, 4}};
        for (int[] b : bad) {
            x.at(2, 0, 0);
            due(30, "bad", x.pair(b[0], b[1], b[2], b[3]), NO);
            due(30, "0", x.look(10), 0);
        }
        int before = x.look(2);
        due(30, "one", x.pair(0, -1, 0, 0), 0);
        due(30, "other", x.pair(0, -1, 0, 1), 1);
        due(30, "nothing replayed", x.look(2), before);
        x.at(2, 0, 0);
        x.pair(0, -1, 0, 0);
        due(30, "latest is 0", x.look(10), 0);
        before = x.look(2);
        int one = x.call(0, 0);
        x.use(-1);
        int other = x.call(1, 0);
        due(30, "times", one * 100 + other, 410);
        due(30, "alike", x.pair(0, -1, 0, 2), 0);
        due(30, "of both", x.look(10), 4 + 2);
        due(30, "of now", x.look(2), 2);
        x.use(0);
        due(30, "of the kept one", x.look(2), before + 4);
        RunsBack y = calling("1");
        y.keep();
        y.begin();
        y.poke(0, 2, 9);
        y.poke(39, 1, 1);
        y.poke(8, 0, 0);
        y.poke(7, 1, 0);
        y.give(1);
        y.run(100);
        due(30, "registers", y.pair(0, -1, 0, 2), 128);
        due(30, "cells", y.pair(0, -1, 0, 3), MIN);
        due(30, "the other way", y.pair(-1, 0, 0, 3), MIN);
        due(30, "itself", y.pair(-1, -1, 0, 2), 0);
        due(30, "counted twice", y.look(10), 8);
    }

    private static void parts() {
        RunsBack x = with(i(1, 0, 0), i(1, 1, 1), i(19, 0), i(17, 5), i(15, 2), i(18));
        due(31, "no run", x.parts(-1, -1), -2);
        x.begin();
        x.give(5);
        x.run(100);
        due(31, "itself", x.parts(-1, -1), -1);
        due(31, "none kept", x.parts(0, -1), -2);
        due(31, "-2", x.parts(-1, -2), -2);
        x.keep();
        due(31, "alike", x.parts(0, -1), -1);
        x.begin();
        x.give(6);
        x.run(100);
        due(31, "by the input", x.parts(0, -1), 3);
        due(31, "the other way", x.parts(-1, 0), 3);
        x.back(2);
        due(31, "as far as both go", x.parts(0, -1), -1);
        x.poke(30, 1, 0);
        due(31, "by a poke", x.parts(0, -1), 2);
        x.begin();
        x.poke(0, 2, 7);
        due(31, "at 0", x.parts(0, -1), 0);
        x.run(1);
        due(31, "the least", x.parts(-1, 0), 0);
        x.code(2, 15, 3, 0, 0);
        x.begin();
        x.run(100);
        due(31, "another value", x.parts(0, -1), 3);
        x.code(2, 1, 0, 5, 0);
        x.code(3, 17, 4, 0, 0);
        x.begin();
        x.run(4);
        due(31, "another counter", x.parts(0, -1), 4);
        due(31, "nothing is counted", x.look(2), 0);
        RunsBack y = with(i(15, 2), i(17, 3), i(17, 3));
        y.begin();
        y.run(2);
        y.keep();
        y.code(0, 15, 1, 0, 0);
        y.begin();
        y.run(2);
        due(31, "counter ahead", y.parts(0, -1), 1);
        RunsBack z = with(i(17, 3), i(0), i(0), i(0));
        z.begin();
        z.run(1);
        z.keep();
        z.code(0, 15, 3, 0, 0);
        z.begin();
        z.run(1);
        due(31, "stack alone", z.parts(0, -1), 1);
        RunsBack o = with(i(21, 0), i(0));
        o.begin();
        o.run(2);
        o.keep();
        o.code(0, 3, 0, 0, 0);
        o.begin();
        o.run(2);
        due(31, "what is put out doesn't matter", o.parts(0, -1), -1);
    }

    private static void look() {
        RunsBack x = with(counting());
        for (int w : new int[] {-1, 13, MIN, MAX}) due(32, "look(" + w + ")", x.look(w), NO);
        x.spacing(2, 8);
        x.begin();
        x.run(100);
        due(32, "time", x.look(0), 100);
        due(32, "status", x.look(1), 0);
        due(32, "replayed", x.look(2), 0);
        int most = x.look(3);
        int seen = 0;
        for (int t = 0; t <= 100; t++) seen = Math.max(seen, x.would(2, 8, t));
        due(32, "most", most, seen);
        due(32, "unit", x.look(4), 2);
        due(32, "depth", x.look(5), 8);
        due(32, "backs", x.look(6), 0);
        x.back(0);
        due(32, "most stays", x.look(3), most);
        due(32, "backs", x.look(6), 1);
        x.keep();
        x.run(9);
        x.back(3);
        x.give(4);
        x.use(0);
        due(32, "of the kept one", x.look(6), 1);
        due(32, "kept", x.look(7), 1);
        due(32, "waits, whatever is asked", x.look(8), 1);
        due(32, "latest", x.look(10), 1);
        x.run(6);
        x.at(0, 0, 0);
        due(32, "latest of another run", x.look(10), 0);
        x.back(8);
        x.back(5);
        due(32, "latest of back", x.look(10), 1);
        x.rests(0, 0, -1);
        x.parts(0, -1);
        x.history(0, -1, 0);
        x.align(0, -1);
        due(32, "these are not among them", x.look(10), 1);
        x.back(50);
        due(32, "refused", x.look(10), 0);
    }
}
