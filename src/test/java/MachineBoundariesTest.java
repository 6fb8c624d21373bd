/** The boundary cases that the document's terms name: the MACHINE, a PROGRAM, a STEP, TRAPS, STATUS, a DRAW. */
public final class MachineBoundariesTest {
    private static final int NONE = Bench.NONE;
    private static final int NO = Bench.NO;
    private static final int MIN = Bench.MIN;
    private static final int MAX = Bench.MAX;
    private static final int NOTHING = Bench.NOTHING;
    private static final int FLAG = Bench.FLAG;
    private static final int WHOLE = Bench.WHOLE;

    public static void main(String[] args) {
        places();
        cellsArePlaces();
        sorts();
        wholesWrap();
        counterAtFirst();
        stackOfEight();
        outsAndCheck();
        checkWraps();
        changes();
        registersAsked();
        instructionsAsked();
        anyNumber();
        flagsAsked();
        drawsAsked();
        kinds();
        runIsOver();
        quotientsOfJava();
        below();
        same();
        notAnd();
        fromCell();
        toCell();
        jumps();
        calls();
        returns();
        input();
        nothing();
        counterOneMore();
        trapsLeaveAll();
        trapOfSort();
        trapOfSortInTurn();
        trapByZero();
        trapOfCell();
        trapOfStack();
        trapOfNoInstruction();
        overIsFirst();
        waitsIsNext();
        waitsAheadOfFull();
        logIsFull();
        fullStopsOutsideAlone();
        timeIsNotTold();
        keptStatus();
        drawOfN();
        drawWithoutSign();
        drawsNeverGoBack();
        Bench.end();
    }

    private static void due(String call, long got, long want) {
        Bench.due(call, got, want);
    }

    private static void due(String call, boolean got, boolean want) {
        Bench.due(call, got, want);
    }

    private static int[] i(int... row) {
        return row;
    }

    // ---- the machine ----

    private static void places() {
        Bench.sentence("PLACES 0 .. 7 (REGISTERS) and 8 .. 39 (CELLS 0 .. 31)");
        RunsBack x = Bench.begun(Bench.round());
        for (int p = 0; p < 40; p++) due("poke(" + p + ")", x.poke(p, WHOLE, 100 + p), 1);
        for (int p = 0; p < 40; p++) Bench.value(x, 0, p, WHOLE, 100 + p);
        for (int p : new int[] {MIN, -2, -1, 40, 41, MAX}) {
            due("poke(" + p + ")", x.poke(p, WHOLE, 1), NONE);
            due("at(0, " + p + ", 0)", x.at(0, p, 0), NO);
            due("watch(" + p + ")", x.watch(p, true), false);
        }
    }

    private static void cellsArePlaces() {
        Bench.sentence("PLACES .. 8 .. 39 (CELLS 0 .. 31)");
        RunsBack x = Bench.gone(4, i(1, 0, 0), i(14, 0, 0), i(1, 0, 31), i(14, 0, 0));
        Bench.value(x, 4, 8, WHOLE, 0);
        Bench.value(x, 4, 39, WHOLE, 31);
        for (int p = 9; p < 39; p++) due("at(4, " + p + ", 2)", x.at(4, p, 2), 0);
    }

    private static void sorts() {
        Bench.sentence("SORT 0 NOTHING (number 0), 1 a FLAG (0, 1), 2 a WHOLE");
        RunsBack x = Bench.begun(Bench.round());
        int[][] can = {{0, 0}, {1, 0}, {1, 1}, {2, MIN}, {2, -1}, {2, 0}, {2, MAX}};
        for (int[] v : can) {
            x.poke(5, v[0], v[1]);
            Bench.value(x, 0, 5, v[0], v[1]);
        }
        int[][] not = {{0, 1}, {0, -1}, {0, MIN}, {1, 2}, {1, -1}, {1, MAX}, {-1, 0}, {3, 0}, {MIN, 0}, {MAX, 1}};
        for (int[] v : not) due("poke(5, " + v[0] + ", " + v[1] + ")", x.poke(5, v[0], v[1]), NONE);
        Bench.value(x, 0, 5, WHOLE, MAX);
        due("logged", x.log(NONE, 0), can.length);
    }

    private static void reckons(int kind, int s, int t, int want) {
        RunsBack x = Bench.stepped(i(kind, 0, 1, 2), i(1, WHOLE, s), i(2, WHOLE, t));
        Bench.value(x, 1, 0, WHOLE, want);
        due("status", x.look(1), 0);
    }

    private static void wholesWrap() {
        Bench.sentence("a WHOLE (32 bits, wraps)");
        reckons(4, MAX, 1, MIN);
        reckons(4, MIN, -1, MAX);
        reckons(5, MIN, 1, MAX);
        reckons(5, 0, MIN, MIN);
        reckons(6, 65536, 65536, 0);
        reckons(6, MIN, -1, MIN);
        reckons(6, MAX, 2, -2);
    }

    private static void counterAtFirst() {
        Bench.sentence("a MACHINE as at first (all NOTHING, COUNTER 0)");
        RunsBack x = Bench.gone(20, Bench.counting());
        x.poke(39, FLAG, 1);
        x.begin();
        for (int p = 0; p < 40; p++) {
            Bench.value(x, 0, p, NOTHING, 0);
            due("changes of " + p, x.at(0, p, 2), 0);
        }
        for (int w = 0; w <= 3; w++) due("state(0, " + w + ")", x.state(0, w), 0);
        due("state(0, 10)", x.state(0, 10), NO);
        for (int n = 0; n < 30; n++) x.poke(20, WHOLE, n);
        for (int p = 0; p < 40; p++) due("as values come to 20: " + p, x.at(0, p, 0), p == 20 ? WHOLE : NOTHING);
    }

    private static void stackOfEight() {
        Bench.sentence("A STACK of up to 8 COUNTERS");
        RunsBack x = Bench.begun();
        for (int n = 0; n < 8; n++) x.code(n, 17, n + 1, 0, 0);
        x.begin();
        due("run(8)", x.run(8), 8);
        due("status", x.look(1), 0);
        due("on the stack", x.state(8, 1), 8);
        for (int k = 0; k < 8; k++) due("k-th " + k, x.state(8, 10 + k), k + 1);
        due("with none", x.state(0, 1), 0);
        due("with one", x.state(1, 10), 1);
        due("with one, the next", x.state(1, 11), NO);
    }

    private static void outsAndCheck() {
        Bench.sentence("OUTS: how many were put out, CHECK: 0, then 31 times it, and 3 times the number and the SORT");
        RunsBack x = Bench.gone(6, i(21, 0), i(2, 0, 0), i(21, 0), i(1, 0, -4), i(21, 0), i(22, 1));
        int[] outs = {0, 1, 1, 2, 2, 3, 3};
        int[] check = {0, 0, 0, 1, 1, 31 - 12 + 2, 31 - 12 + 2};
        for (int t = 0; t <= 6; t++) {
            due("outs at " + t, x.state(t, 2), outs[t]);
            due("check at " + t, x.state(t, 3), check[t]);
        }
    }

    private static void checkWraps() {
        Bench.sentence("OUTS .. CHECK .. (ints, which wrap)");
        RunsBack x = Bench.gone(41, i(1, 0, MAX), i(21, 0), i(15, 1));
        int check = 0;
        for (int n = 0; n < 20; n++) check = 31 * check + 3 * MAX + WHOLE;
        due("check", x.state(41, 3), check);
        due("outs", x.state(41, 2), 20);
    }

    private static void changes() {
        Bench.sentence("CHANGES of a PLACE: how often its VALUE became another one (of another SORT, or number)");
        RunsBack x = Bench.gone(9, i(22, 0), i(2, 0, 0), i(1, 0, 0), i(1, 0, 0), i(22, 0), i(2, 0, 1), i(1, 0, 1),
            i(1, 0, MIN), i(3, 0, 0));
        int[] want = {0, 0, 1, 2, 2, 3, 4, 5, 6, 6};
        for (int t = 0; t <= 9; t++) due("changes at " + t, x.at(t, 0, 2), want[t]);
    }

    // ---- what an instruction asks ----

    /** Whether one of these kinds can be with n as its a (0), b (1) or c (2), the others being 1. */
    private static void asks(int kind, int part, int n, boolean want) {
        int[] abc = {1, 1, 1};
        abc[part] = n;
        RunsBack x = new RunsBack();
        due("code of kind " + kind + ", part " + part + " " + n, x.code(7, kind, abc[0], abc[1], abc[2]), want);
        due("how many then", x.begin(), want ? 1 : 0);
    }

    private static void asksFrom(int kind, int part, int least, int most) {
        asks(kind, part, least, true);
        asks(kind, part, most, true);
        asks(kind, part, least - 1, false);
        asks(kind, part, most + 1, false);
        asks(kind, part, MIN, false);
        asks(kind, part, MAX, false);
    }

    private static void asksNothing(int kind, int part) {
        for (int n : new int[] {MIN, -1, 0, 64, 1001, MAX}) asks(kind, part, n, true);
    }

    private static void registersAsked() {
        Bench.sentence("REGISTERS r, s, t are 0 .. 7");
        for (int kind : new int[] {1, 2, 3, 4, 5, 6, 7, 8, 9, 10, 11, 12, 13, 14, 16, 19, 20, 21, 22}) {
            asksFrom(kind, 0, 0, 7);
        }
        for (int kind : new int[] {3, 4, 5, 6, 7, 8, 9, 10, 11, 12, 13, 14}) asksFrom(kind, 1, 0, 7);
        for (int kind : new int[] {4, 5, 6, 7, 8, 9, 10, 12}) asksFrom(kind, 2, 0, 7);
    }

    private static void instructionsAsked() {
        Bench.sentence("p is 0 .. 63");
        asksFrom(15, 0, 0, 63);
        asksFrom(17, 0, 0, 63);
        asksFrom(16, 1, 0, 63);
    }

    private static void anyNumber() {
        Bench.sentence("n any int");
        asksNothing(1, 1);
        for (int n : new int[] {MIN, -1, 0, MAX}) {
            RunsBack x = Bench.gone(1, i(1, 0, n));
            Bench.value(x, 1, 0, WHOLE, n);
        }
    }

    private static void flagsAsked() {
        Bench.sentence("2 r n (0, 1): r is a FLAG n");
        asksFrom(2, 1, 0, 1);
        Bench.value(Bench.gone(1, i(2, 0, 0)), 1, 0, FLAG, 0);
        Bench.value(Bench.gone(1, i(2, 0, 1)), 1, 0, FLAG, 1);
    }

    private static void drawsAsked() {
        Bench.sentence("20 r n (1 .. 1000)");
        asksFrom(20, 1, 1, 1000);
    }

    private static void kinds() {
        Bench.sentence("what isn't told by its kind doesn't matter");
        for (int part = 0; part < 3; part++) {
            asksNothing(0, part);
            asksNothing(18, part);
        }
        for (int kind : new int[] {1, 2, 3, 11, 13, 14, 15, 16, 17, 19, 20, 21, 22}) asksNothing(kind, 2);
        for (int kind : new int[] {15, 17, 19, 21, 22}) asksNothing(kind, 1);
    }

    // ---- what the kinds do at their edges ----

    private static void runIsOver() {
        Bench.sentence("0: the RUN is over");
        RunsBack x = Bench.begun(i(0), i(1, 0, 1));
        due("run(5)", x.run(5), 1);
        due("status", x.look(1), 2);
        due("counter", x.state(1, 0), 1);
        due("run(1)", x.run(1), 0);
        due("time", x.look(0), 1);
    }

    private static void quotientsOfJava() {
        Bench.sentence("s / t (Java's), s % t (WHOLES)");
        reckons(7, MIN, -1, MIN);
        reckons(8, MIN, -1, 0);
        reckons(7, -7, 2, -3);
        reckons(8, -7, 2, -1);
        reckons(7, 7, -2, -3);
        reckons(8, 7, -2, 1);
        reckons(7, 0, 5, 0);
        reckons(7, MIN, 1, MIN);
        reckons(7, 4, 5, 0);
        reckons(7, 5, 5, 1);
        reckons(8, 4, 5, 4);
        reckons(8, 5, 5, 0);
        reckons(8, MAX, 1, 0);
        reckons(8, 0, 5, 0);
    }

    private static void flag(int[] row, int want, int[]... values) {
        RunsBack x = Bench.stepped(row, values);
        Bench.value(x, 1, 0, FLAG, want);
    }

    private static void below() {
        Bench.sentence("9 r s t: r is a FLAG, whether s is below t (WHOLES)");
        int[][] rows = {{1, 2, 1}, {2, 2, 0}, {3, 2, 0}, {MIN, MAX, 1}, {MAX, MIN, 0}, {-1, 0, 1}, {MIN, MIN, 0}};
        for (int[] r : rows) flag(i(9, 0, 1, 2), r[2], i(1, WHOLE, r[0]), i(2, WHOLE, r[1]));
    }

    private static void same() {
        Bench.sentence("10 r s t: a FLAG, whether the VALUES of s and t are the same (of any SORT)");
        int[][] values = {{NOTHING, 0}, {FLAG, 0}, {FLAG, 1}, {WHOLE, 0}, {WHOLE, 1}, {WHOLE, MIN}};
        for (int[] s : values) {
            for (int[] t : values) flag(i(10, 0, 1, 2), s == t ? 1 : 0, i(1, s[0], s[1]), i(2, t[0], t[1]));
        }
        flag(i(10, 0, 5, 5), 1);
    }

    private static void notAnd() {
        Bench.sentence("11 r s: not s (FLAGS). 12 r s t: s and t (FLAGS)");
        for (int s = 0; s <= 1; s++) {
            flag(i(11, 0, 1), 1 - s, i(1, FLAG, s));
            for (int t = 0; t <= 1; t++) flag(i(12, 0, 1, 2), s * t, i(1, FLAG, s), i(2, FLAG, t));
        }
        flag(i(11, 0, 0), 0, i(0, FLAG, 1));
    }

    private static void fromCell() {
        Bench.sentence("13 r s: r is the VALUE of the CELL whose number s is (a WHOLE)");
        for (int cell : new int[] {0, 1, 30, 31}) {
            RunsBack x = Bench.stepped(i(13, 0, 1), i(1, WHOLE, cell), i(8 + cell, WHOLE, MIN));
            Bench.value(x, 1, 0, WHOLE, MIN);
            RunsBack y = Bench.stepped(i(13, 1, 1), i(1, WHOLE, cell), i(8 + cell, FLAG, 1));
            Bench.value(y, 1, 1, FLAG, 1);
            RunsBack z = Bench.stepped(i(13, 1, 1), i(1, WHOLE, cell));
            Bench.value(z, 1, 1, NOTHING, 0);
        }
    }

    private static void toCell() {
        Bench.sentence("14 r s: the CELL whose number r is (a WHOLE) has the VALUE of s");
        for (int cell : new int[] {0, 1, 30, 31}) {
            RunsBack x = Bench.stepped(i(14, 1, 2), i(1, WHOLE, cell), i(2, FLAG, 1));
            Bench.value(x, 1, 8 + cell, FLAG, 1);
            RunsBack y = Bench.stepped(i(14, 1, 1), i(1, WHOLE, cell));
            Bench.value(y, 1, 8 + cell, WHOLE, cell);
            RunsBack z = Bench.stepped(i(14, 1, 3), i(1, WHOLE, cell), i(8 + cell, WHOLE, 5));
            Bench.value(z, 1, 8 + cell, NOTHING, 0);
            due("changes", z.at(1, 8 + cell, 2), 2);
        }
    }

    private static void jumps() {
        Bench.sentence("15 p: on at p. 16 r p: on at p, if r (a FLAG) is 1");
        for (int p : new int[] {0, 1, 63}) {
            due("15", Bench.stepped(i(15, p)).state(1, 0), p);
            due("16, 1", Bench.stepped(i(16, 2, p), i(2, FLAG, 1)).state(1, 0), p);
            due("16, 0", Bench.stepped(i(16, 2, p), i(2, FLAG, 0)).state(1, 0), 1);
        }
        RunsBack x = Bench.with(i(15, 63));
        x.code(63, 16, 2, 5, 0);
        x.begin();
        x.poke(2, FLAG, 0);
        x.run(2);
        due("16 at 63, 0", x.state(2, 0), 64);
        due("status", x.look(1), 0);
    }

    private static void calls() {
        Bench.sentence("17 p: a CALL: the COUNTER of the next one comes on the STACK; on at p");
        for (int p : new int[] {0, 63}) {
            RunsBack x = Bench.stepped(i(17, p));
            due("counter", x.state(1, 0), p);
            due("on the stack", x.state(1, 10), 1);
        }
        RunsBack x = Bench.with(i(15, 63));
        x.code(63, 17, 62, 0, 0);
        x.code(62, 18, 0, 0, 0);
        x.begin();
        x.run(2);
        due("from 63", x.state(2, 10), 64);
        x.run(1);
        due("back at 64", x.state(3, 0), 64);
        due("stack", x.state(3, 1), 0);
        due("kind at 64", x.state(3, 4), NONE);
        due("run(5)", x.run(5), 1);
        due("status", x.look(1), 15);
    }

    private static void returns() {
        Bench.sentence("18: on at what is on top of the STACK, which goes; with an empty STACK the RUN is over");
        RunsBack x = Bench.begun(i(17, 3), i(18), i(0), i(17, 5), i(18), i(18));
        due("run(9)", x.run(9), 5);
        int[] counters = {0, 3, 5, 4, 1, 2};
        int[] stacked = {0, 1, 2, 1, 0, 0};
        for (int t = 0; t <= 5; t++) {
            due("counter at " + t, x.state(t, 0), counters[t]);
            due("stack at " + t, x.state(t, 1), stacked[t]);
        }
        due("status", x.look(1), 2);
        due("time", x.look(0), 5);
    }

    private static void input() {
        Bench.sentence("19 r: r is the next INPUT (a WHOLE)");
        RunsBack x = Bench.begun(i(19, 0), i(19, 7), i(19, 7), i(0));
        for (int v : new int[] {MIN, 0, MAX}) x.give(v);
        due("run(9)", x.run(9), 4);
        Bench.value(x, 1, 0, WHOLE, MIN);
        Bench.value(x, 2, 7, WHOLE, 0);
        Bench.value(x, 3, 7, WHOLE, MAX);
    }

    private static void nothing() {
        Bench.sentence("22 r: r is NOTHING");
        RunsBack x = Bench.stepped(i(22, 7), i(7, WHOLE, MIN));
        Bench.value(x, 1, 7, NOTHING, 0);
        due("changes", x.at(1, 7, 2), 2);
        due("of nothing", Bench.stepped(i(22, 7)).at(1, 7, 2), 0);
    }

    private static void counterOneMore() {
        Bench.sentence("the COUNTER is one more first (63: 64; 64 stays), TIME is one more behind it");
        RunsBack x = Bench.with(i(15, 62));
        x.code(62, 22, 0, 0, 0);
        x.code(63, 22, 0, 0, 0);
        x.begin();
        due("run(3)", x.run(3), 3);
        int[] counters = {0, 62, 63, 64};
        for (int t = 0; t <= 3; t++) due("counter at " + t, x.state(t, 0), counters[t]);
        due("status at 64", x.look(1), 0);
        due("run(3) at 64", x.run(3), 1);
        due("64 stays", x.state(4, 0), 64);
        due("time", x.look(0), 4);
    }

    // ---- traps ----

    private static void trap(int trap, int[] row, int[]... values) {
        RunsBack x = Bench.begun(row, i(0));
        for (int[] v : values) x.poke(v[0], v[1], v[2]);
        due("run(9)", x.run(9), 1);
        due("status of kind " + row[0], x.look(1), 10 + trap);
        due("counter", x.state(1, 0), 1);
        due("registers", x.changed(0, 0), 0);
        due("cells", x.changed(0, 1), 0);
        due("run(1)", x.run(1), 0);
    }

    private static void goesOn(int[] row, int[]... values) {
        RunsBack x = Bench.stepped(row, values);
        due("status of kind " + row[0], x.look(1), 0);
    }

    private static void trapsLeaveAll() {
        Bench.sentence("TRAPS (the STEP counts, TIME is one more, the COUNTER is one more, nothing else changes, "
            + "the RUN is over)");
        RunsBack x = Bench.spaced(2, 2, i(17, 5), i(0), i(0), i(0), i(0), i(20, 0, 9), i(21, 0), i(12, 0, 0, 0));
        x.run(3);
        int drawn = x.look(9);
        due("run(9)", x.run(9), 1);
        due("status", x.look(1), 11);
        due("time", x.look(0), 4);
        due("counter", x.state(4, 0), 8);
        for (int w : new int[] {1, 2, 3, 10}) due("state " + w, x.state(4, w), x.state(3, w));
        for (int p = 0; p < 40; p++) due("changes of " + p, x.at(4, p, 2), x.at(3, p, 2));
        due("X", x.look(9), drawn);
        due("log", x.log(NONE, 0), 1);
        due("calls", x.call(NONE, 0), 1);
        due("the STEP counts", x.done(4, 7), 1);
        due("its TIME is held", x.held(2, 0), 4);
        due("run(9)", x.run(9), 0);
        due("it is over still", x.look(1), 11);
        due("goes back", x.back(3), 1);
        due("status is anew", x.look(1), 0);
    }

    private static void trapOfSort() {
        Bench.sentence("1 a VALUE of another SORT than is asked");
        int[][] noWhole = {{NOTHING, 0}, {FLAG, 0}, {FLAG, 1}};
        int[][] noFlag = {{NOTHING, 0}, {WHOLE, 0}, {WHOLE, 1}};
        int[] whole = {2, WHOLE, 3};
        int[] flag = {2, FLAG, 1};
        for (int[] v : noWhole) {
            for (int kind = 4; kind <= 9; kind++) {
                trap(1, i(kind, 0, 1, 2), i(1, v[0], v[1]), whole);
                trap(1, i(kind, 0, 2, 1), i(1, v[0], v[1]), whole);
            }
            trap(1, i(13, 0, 1), i(1, v[0], v[1]));
            trap(1, i(14, 1, 2), i(1, v[0], v[1]), whole);
        }
        for (int[] v : noFlag) {
            trap(1, i(11, 0, 1), i(1, v[0], v[1]));
            trap(1, i(12, 0, 1, 2), i(1, v[0], v[1]), flag);
            trap(1, i(12, 0, 2, 1), i(1, v[0], v[1]), flag);
            trap(1, i(16, 1, 5), i(1, v[0], v[1]));
        }
        for (int[] v : new int[][] {{NOTHING, 0}, {FLAG, 1}, {WHOLE, 1}}) {
            goesOn(i(3, 0, 1), i(1, v[0], v[1]));
            goesOn(i(10, 0, 1, 2), i(1, v[0], v[1]));
            goesOn(i(14, 2, 1), i(2, WHOLE, 0), i(1, v[0], v[1]));
            goesOn(i(21, 1), i(1, v[0], v[1]));
            goesOn(i(22, 1), i(1, v[0], v[1]));
        }
    }

    private static void trapOfSortInTurn() {
        Bench.sentence("a VALUE of another SORT than is asked (of s ahead of t; of kind 14 r), 2 .. 3 ..");
        for (int kind = 7; kind <= 8; kind++) {
            trap(1, i(kind, 0, 1, 2), i(1, FLAG, 0), i(2, WHOLE, 0));
            trap(1, i(kind, 0, 2, 1), i(2, WHOLE, 0), i(1, FLAG, 0));
        }
        trap(1, i(12, 0, 1, 1), i(1, WHOLE, 1));
        // the FLAG's number is no CELL's either
        trap(1, i(14, 1, 2), i(1, FLAG, 1), i(2, WHOLE, 32));
    }

    private static void trapByZero() {
        Bench.sentence("2 a quotient or rest by 0");
        for (int s : new int[] {MIN, -1, 0, 1, MAX}) {
            trap(2, i(7, 0, 1, 2), i(1, WHOLE, s), i(2, WHOLE, 0));
            trap(2, i(8, 0, 1, 2), i(1, WHOLE, s), i(2, WHOLE, 0));
        }
        goesOn(i(7, 0, 1, 2), i(1, WHOLE, 0), i(2, WHOLE, 1));
        goesOn(i(8, 0, 1, 2), i(1, WHOLE, 0), i(2, WHOLE, -1));
        goesOn(i(6, 0, 1, 2), i(1, WHOLE, 0), i(2, WHOLE, 0));
    }

    private static void trapOfCell() {
        Bench.sentence("3 a number that no CELL has");
        for (int cell : new int[] {MIN, -1, 32, 39, MAX}) {
            trap(3, i(13, 0, 1), i(1, WHOLE, cell));
            trap(3, i(14, 1, 2), i(1, WHOLE, cell), i(2, WHOLE, 1));
        }
        for (int cell : new int[] {0, 31}) {
            goesOn(i(13, 0, 1), i(1, WHOLE, cell));
            goesOn(i(14, 1, 2), i(1, WHOLE, cell));
        }
    }

    private static void trapOfStack() {
        Bench.sentence("4 a 9th on the STACK");
        RunsBack x = Bench.begun(i(17, 0));
        due("run(8)", x.run(8), 8);
        due("status", x.look(1), 0);
        due("the 9th", x.run(8), 1);
        due("status", x.look(1), 14);
        due("time", x.look(0), 9);
        due("counter", x.state(9, 0), 1);
        due("on the stack", x.state(9, 1), 8);
        due("calls", x.call(NONE, 0), 8);
        due("back", x.back(8), 0);
        due("on the stack", x.state(8, 1), 8);
        // one goes and one more comes: eight again
        RunsBack z = Bench.begun(i(17, 2), i(0), i(17, 4), i(0), i(17, 6), i(0), i(17, 8), i(0), i(17, 10), i(0),
            i(17, 12), i(0), i(17, 14), i(0), i(17, 17), i(17, 17), i(0), i(18));
        due("run(20)", z.run(20), 12);
        due("eight again, then 18 and 0", z.look(1), 2);
        due("calls", z.call(NONE, 0), 9);
        due("ahead of the 9th", z.call(8, 2), 7);
    }

    private static void trapOfNoInstruction() {
        Bench.sentence("5 there is no INSTRUCTION (also at 64)");
        RunsBack x = Bench.begun();
        due("run(9)", x.run(9), 1);
        due("status", x.look(1), 15);
        due("counter", x.state(1, 0), 1);
        RunsBack y = Bench.with(i(15, 63));
        y.begin();
        due("run(9)", y.run(9), 2);
        due("status", y.look(1), 15);
        due("counter behind 63", y.state(2, 0), 64);
        y.code(63, 22, 0, 0, 0);
        y.begin();
        due("run(9)", y.run(9), 3);
        due("status at 64", y.look(1), 15);
        due("counter", y.state(3, 0), 64);
        y.code(0, NONE, 0, 0, 0);
        y.begin();
        due("taken away", y.run(9), 1);
        due("status", y.look(1), 15);
    }

    // ---- status ----

    private static void overIsFirst() {
        Bench.sentence("STATUS (the first that fits): 2 over, 10 and a TRAP");
        RunsBack x = Bench.gone(5, i(0), i(19, 0));
        due("over, not waiting", x.look(1), 2);
        RunsBack y = Bench.gone(5, i(18), i(19, 0));
        due("over by 18, not waiting", y.look(1), 2);
        RunsBack z = Bench.gone(5, i(11, 0, 0), i(19, 0));
        due("trapped, not waiting", z.look(1), 11);
        RunsBack v = Bench.nearlyFull(i(20, 0, 5), i(0), i(20, 0, 5));
        v.run(9);
        due("over, not full", v.look(1), 2);
        RunsBack w = Bench.nearlyFull(i(20, 0, 5), i(11, 0, 0), i(20, 0, 5));
        w.run(9);
        due("trapped, not full", w.look(1), 11);
    }

    private static void waitsIsNext() {
        Bench.sentence("1 it WAITS (the INSTRUCTION is of kind 19 and there is no INPUT: no STEP)");
        RunsBack x = Bench.begun(i(19, 0), i(19, 0), i(20, 0, 1));
        due("status", x.look(1), 1);
        due("run(5)", x.run(5), 0);
        due("time", x.look(0), 0);
        x.give(5);
        due("status", x.look(1), 0);
        due("run(5)", x.run(5), 1);
        due("status", x.look(1), 1);
        x.give(6);
        due("run(2)", x.run(2), 2);
        due("a draw waits for nothing", x.look(1), 0);
    }

    private static void waitsAheadOfFull() {
        Bench.sentence("1 it WAITS .. 3 the LOG is full (the first that fits)");
        RunsBack x = Bench.nearlyFull(i(20, 0, 5), i(19, 0));
        x.run(9);
        due("log", x.log(NONE, 0), 800);
        due("waits", x.look(1), 1);
        x.give(4);
        due("full", x.look(1), 3);
        due("run(5)", x.run(5), 0);
        due("the INPUT isn't taken", x.look(8), 1);
    }

    private static void logIsFull() {
        Bench.sentence("3 the LOG is full (it is of kind 19 or 20 and the LOG has 800: no STEP)");
        RunsBack x = Bench.nearlyFull(i(20, 0, 5), i(20, 0, 5));
        due("799", x.log(NONE, 0), 799);
        due("status", x.look(1), 0);
        due("run(5)", x.run(5), 1);
        due("800", x.log(NONE, 0), 800);
        due("status", x.look(1), 3);
        int drawn = x.look(9);
        due("run(5)", x.run(5), 0);
        due("X", x.look(9), drawn);
        due("time", x.look(0), Bench.NEARLY_FULL_TIME + 1);
        RunsBack y = Bench.nearlyFull(i(19, 0), i(19, 0));
        y.give(1);
        y.give(2);
        due("run(5)", y.run(5), 1);
        due("status", y.look(1), 3);
        due("one waits", y.look(8), 1);
        y.back(Bench.NEARLY_FULL_TIME);
        due("behind BACK", y.look(1), 0);
    }

    private static void fullStopsOutsideAlone() {
        Bench.sentence("3 the LOG is full (it is of kind 19 or 20 ..), 0 else");
        RunsBack x = Bench.nearlyFull(i(20, 0, 5), i(1, 0, 5), i(21, 0), i(0));
        due("run(9)", x.run(9), 4);
        due("status", x.look(1), 2);
        due("log", x.log(NONE, 0), 800);
    }

    private static void timeIsNotTold() {
        Bench.sentence("0 else (TIME 3000 is not told by it)");
        RunsBack x = Bench.gone(3000, Bench.round());
        due("time", x.look(0), 3000);
        due("status", x.look(1), 0);
        due("run(1)", x.run(1), 0);
        Bench.sentence("STATUS (the first that fits), at TIME 3000");
        RunsBack y = Bench.begun(i(16, 0, 0), i(19, 1));
        y.poke(0, FLAG, 1);
        Bench.go(y, 2999);
        y.keep();
        y.poke(0, FLAG, 0);
        due("run(5)", y.run(5), 1);
        due("waits", y.look(1), 1);
        y.back(2999);
        y.poke(0, WHOLE, 0);
        due("run(5)", y.run(5), 1);
        due("trapped", y.look(1), 11);
        RunsBack z = Bench.begun(i(16, 0, 0), i(0));
        z.poke(0, FLAG, 1);
        Bench.go(z, 2998);
        z.poke(0, FLAG, 0);
        due("run(5)", z.run(5), 2);
        due("over", z.look(1), 2);
    }

    private static void keptStatus() {
        Bench.sentence("(Of a KEPT RUN: as it was when it was KEPT.)");
        RunsBack x = Bench.begun(i(19, 0), i(0));
        x.keep();
        x.give(3);
        x.keep();
        x.run(5);
        x.keep();
        x.back(0);
        x.begin();
        int[] want = {1, 0, 2};
        for (int k = 0; k < 3; k++) {
            x.use(k);
            due("status of " + k, x.look(1), want[k]);
        }
        RunsBack y = Bench.nearlyFull(i(20, 0, 5), i(20, 0, 5));
        y.run(1);
        y.keep();
        y.back(0);
        y.use(0);
        due("full", y.look(1), 3);
    }

    // ---- draws ----

    private static int next(int x) {
        return 1664525 * x + 1013904223;
    }

    private static void drawOfN() {
        Bench.sentence("A DRAW of n: X (an int, 1 at first) becomes 1664525 times itself + 1013904223 .. modulo n");
        RunsBack x = Bench.begun(i(20, 0, 1), i(20, 1, 1000), i(20, 2, 2));
        due("X at first", x.look(9), 1);
        x.run(3);
        int one = next(1);
        int two = next(one);
        int three = next(two);
        Bench.value(x, 1, 0, WHOLE, 0);
        Bench.value(x, 2, 1, WHOLE, (two >>> 8) % 1000);
        Bench.value(x, 3, 2, WHOLE, (three >>> 8) % 2);
        due("X", x.look(9), three);
    }

    private static void drawWithoutSign() {
        Bench.sentence("then it is its highest 24 bits (without sign) modulo n");
        boolean high = false;
        boolean low = false;
        for (int seed = -3; seed <= 3; seed++) {
            RunsBack x = Bench.begun(i(20, 0, 997));
            x.seed(seed * 715827883);
            x.run(1);
            int drawn = next(seed * 715827883);
            high |= drawn < 0;
            low |= drawn >= 0;
            Bench.value(x, 1, 0, WHOLE, (int) ((drawn & 0xffffffffL) / 256 % 997));
            due("X", x.look(9), drawn);
        }
        due("both signs", high && low, true);
    }

    private static void drawsNeverGoBack() {
        Bench.sentence("X is none of a MACHINE's; it never goes back");
        RunsBack x = Bench.gone(2, i(20, 0, 1000), i(15, 0));
        int one = x.look(9);
        x.keep();
        x.back(0);
        due("behind back()", x.look(9), one);
        x.at(0, 0, 0);
        due("behind a replay", x.look(9), one);
        x.run(1);
        due("goes on from it", x.at(1, 0, 1), (next(one) >>> 8) % 1000);
        x.begin();
        due("behind begin()", x.look(9), next(one));
        x.use(0);
        due("of all runs", x.look(9), next(one));
    }
}
