import java.util.TreeSet;

/**
 * The boundary cases that the document's terms name: a RUN with its LOG and CALLS, HELD STATES, a REPLAY, THE LAST
 * CHANGE, WHEN, BACK, RESTS, TWO RUNS LAID BESIDE EACH OTHER.
 */
public final class RunBoundariesTest {
    private static final int NONE = Bench.NONE;
    private static final int NO_SUCH = Bench.NO_SUCH;
    private static final int NO = Bench.NO;
    private static final int MIN = Bench.MIN;
    private static final int NOTHING = Bench.NOTHING;
    private static final int FLAG = Bench.FLAG;
    private static final int WHOLE = Bench.WHOLE;

    public static void main(String[] args) {
        ownProgram();
        timeEnds();
        logTimes();
        logEnds();
        logHasRoomBehindBack();
        callsThatTrap();
        callsFirst();
        callsBehindBack();
        stateOfTime();
        heldForGood();
        heldAsTimeComes();
        heldTillOneComes();
        heldByEachSpacing();
        heldAheadOfPokes();
        heldAsTold();
        replayOwnTime();
        replayFromLatest();
        replayIsCounted();
        refusedHasNone();
        keptReplays();
        lastChangeHalves();
        lastChangeAtEnds();
        lastChangeNone();
        lastChangeThereAndBack();
        whenFromHeld();
        whenUpToNow();
        whenByOthers();
        whenByStatesAlone();
        backToEnds();
        backLog();
        backInputsInOrder();
        backMoreThanHundredWait();
        backPokes();
        backCalls();
        backHeld();
        backStatus();
        backRunsOnAnew();
        restsOfKinds();
        restsOfCells();
        restsOnEntries();
        restsOfNothing();
        restsOfTraps();
        restsOfPokes();
        restsAsItDid();
        restsOfSameValue();
        restsBehindBack();
        pairsAsManyAsCanBe();
        pairsFirst();
        pairsOfOthersBehind();
        pairsOfNone();
        pairsOfHundred();
        pairsByStack();
        pairsUnlike();
        Bench.end();
    }

    private static void due(String call, long got, long want) {
        Bench.due(call, got, want);
    }

    private static int[] i(int... row) {
        return row;
    }

    // ---- the run, its log and its calls ----

    private static void ownProgram() {
        Bench.sentence("A RUN has its own PROGRAM (as it was when it began)");
        RunsBack x = Bench.begun(i(1, 0, 5), i(15, 0));
        x.keep();
        x.code(0, 1, 0, 6, 0);
        x.code(1, NONE, 0, 0, 0);
        due("run(4)", x.run(4), 4);
        Bench.value(x, 1, 0, WHOLE, 5);
        due("kind", x.state(1, 4), 15);
        x.begin();
        due("run(4)", x.run(4), 2);
        Bench.value(x, 1, 0, WHOLE, 6);
        x.use(0);
        due("kind of the kept one", x.state(0, 4), 1);
    }

    private static void timeEnds() {
        Bench.sentence("TIME 0 .. 3000 (then it goes on no more)");
        RunsBack x = Bench.gone(2999, Bench.round());
        due("time", x.look(0), 2999);
        due("run(500)", x.run(500), 1);
        due("run(500)", x.run(500), 0);
        due("run(1)", x.run(1), 0);
        due("time", x.look(0), 3000);
        due("at(3001)", x.at(3001, 0, 0), NO);
        due("poke", x.poke(0, FLAG, 1), 1);
        Bench.value(x, 3000, 0, FLAG, 1);
        Bench.value(x, 2999, 0, NOTHING, 0);
        due("back(3000)", x.back(3000), NONE);
        x.back(2999);
        due("run(500)", x.run(500), 1);
        Bench.value(x, 3000, 0, NOTHING, 0);
    }

    private static void logTimes() {
        Bench.sentence("a LOG: of each INPUT taken and DRAW (at the TIME at which that STEP began) and POKE (at the TIME "
            + "at which it was done), as they came");
        RunsBack x = Bench.begun(i(22, 3), i(19, 0), i(20, 1, 1));
        x.poke(39, FLAG, 1);
        x.give(8);
        x.give(9);
        x.run(1);
        x.poke(4, WHOLE, MIN);
        x.poke(4, NOTHING, 0);
        x.run(2);
        x.poke(0, WHOLE, 8);
        int[][] want = {{0, 2, 1, 39, 1}, {1, 2, MIN, 4, 2}, {1, 2, 0, 4, 0}, {1, 0, 8, NONE, 2}, {2, 1, 0, NONE, 2},
            {3, 2, 8, 0, 2}};
        due("how many", x.log(NONE, 0), want.length);
        for (int k = 0; k < want.length; k++) {
            for (int w = 0; w < 5; w++) due("log(" + k + ", " + w + ")", x.log(k, w), want[k][w]);
        }
    }

    private static void logEnds() {
        Bench.sentence("a LOG: .. 800 at most");
        RunsBack x = Bench.nearlyFull(i(15, Bench.NEARLY_FULL_COUNTER));
        due("799", x.log(NONE, 0), 799);
        due("the 800th", x.poke(9, WHOLE, 1), 1);
        due("800", x.log(NONE, 0), 800);
        due("the 801st", x.poke(9, WHOLE, 2), NONE);
        due("800 still", x.log(NONE, 0), 800);
        Bench.value(x, Bench.NEARLY_FULL_TIME, 9, WHOLE, 1);
        due("the last", x.log(799, 1), 2);
        due("behind it", x.log(800, 0), NO);
        due("one more", x.log(801, 0), NO);
        due("hangs on the last", x.hangs(799, Bench.NEARLY_FULL_TIME, 1), 2);
        due("hangs behind it", x.hangs(800, Bench.NEARLY_FULL_TIME, 1), NO);
        due("a run goes on", x.run(500), 500);
        x.begin();
        due("of a new run", x.poke(9, WHOLE, 1), 1);
    }

    private static void logHasRoomBehindBack() {
        Bench.sentence("a LOG: .. 800 at most (behind BACK fewer)");
        RunsBack x = Bench.nearlyFull(i(20, 0, 5), i(20, 0, 5));
        x.run(1);
        due("full", x.poke(0, WHOLE, 1), NONE);
        x.back(Bench.NEARLY_FULL_TIME);
        due("one has room", x.poke(0, WHOLE, 1), 1);
        due("one alone", x.poke(0, WHOLE, 2), NONE);
        due("no draw", x.run(1), 0);
        x.back(3);
        due("none", x.log(NONE, 0), 0);
        due("goes on", Bench.go(x, Bench.NEARLY_FULL_TIME), Bench.NEARLY_FULL_TIME - 3 + 1);
        due("full", x.log(NONE, 0), 800);
    }

    private static void callsThatTrap() {
        Bench.sentence("CALLS: of each STEP of kind 17 that did not TRAP the TIME at which it began, p, how many were on "
            + "the STACK ahead of it");
        RunsBack x = Bench.gone(20, i(22, 0), i(17, 1));
        due("status", x.look(1), 14);
        due("how many", x.call(NONE, 0), 8);
        for (int k = 0; k < 8; k++) {
            due("time of " + k, x.call(k, 0), k + 1);
            due("p of " + k, x.call(k, 1), 1);
            due("stack of " + k, x.call(k, 2), k);
        }
        due("call(8, 0)", x.call(8, 0), NONE);
        RunsBack y = Bench.gone(1, i(17, 63));
        due("p 63", y.call(0, 1), 63);
        due("time 0", y.call(0, 0), 0);
    }

    private static void callsFirst() {
        Bench.sentence("of each RUN the first 100");
        RunsBack x = Bench.gone(297, Bench.calling());
        due("99", x.call(NONE, 0), 99);
        x.run(1);
        due("100", x.call(NONE, 0), 100);
        x.run(3);
        due("still 100", x.call(NONE, 0), 100);
        due("the first", x.call(0, 0), 0);
        due("the last of them", x.call(99, 0), 297);
        due("call(100, 0)", x.call(100, 0), NONE);
        due("the stack has it", x.state(301, 1), 1);
        x.begin();
        due("of the next run", x.call(NONE, 0), 0);
        x.run(1);
        due("of the next run", x.call(NONE, 0), 1);
    }

    private static void callsBehindBack() {
        Bench.sentence("of each RUN the first 100 (behind BACK those that stay)");
        RunsBack x = Bench.gone(450, Bench.calling());
        x.back(300);
        due("at 300", x.call(NONE, 0), 100);
        x.run(9);
        due("no more", x.call(NONE, 0), 100);
        due("the last", x.call(99, 0), 297);
        x.back(298);
        due("at 298", x.call(NONE, 0), 100);
        x.back(297);
        due("at 297", x.call(NONE, 0), 99);
        x.run(9);
        due("the 100th anew", x.call(99, 0), 297);
        due("no more", x.call(NONE, 0), 100);
    }

    private static void stateOfTime() {
        Bench.sentence("THE STATE of TIME t: that behind t STEPS and all POKES of TIME t");
        RunsBack x = Bench.begun(i(1, 0, 1), i(1, 0, 2));
        x.poke(0, FLAG, 0);
        x.poke(0, FLAG, 1);
        x.run(1);
        Bench.value(x, 0, 0, FLAG, 1);
        Bench.value(x, 1, 0, WHOLE, 1);
        x.poke(0, FLAG, 0);
        Bench.value(x, 1, 0, FLAG, 0);
        x.run(1);
        Bench.value(x, 1, 0, FLAG, 0);
        Bench.value(x, 2, 0, WHOLE, 2);
        due("changes", x.at(0, 0, 2) * 100 + x.at(1, 0, 2) * 10 + x.at(2, 0, 2), 245);
    }

    // ---- what is held ----

    private static void holds(RunsBack x, int unit, int depth) {
        int t = x.look(0);
        TreeSet<Integer> units = Bench.heldUnits(unit, depth, t);
        String told = unit + ", " + depth + " at " + t + ": ";
        due(told + "how many", x.held(NONE, 0), units.size());
        int n = 0;
        for (int k : units) {
            due(told + "held(" + n + ", 0)", x.held(n, 0), k * unit);
            due(told + "held(" + n + ", 1)", x.held(n, 1), k == 0 ? NONE : Bench.goesWith(k, depth) * unit);
            n++;
        }
        due(told + "held(" + n + ", 0)", x.held(n, 0), NONE);
    }

    private static void heldForGood() {
        Bench.sentence("0 from the beginning on, for good");
        RunsBack x = Bench.spaced(1, 1, Bench.round());
        for (int n = 0; n <= 6; n++) {
            due("held(0, 0)", x.held(0, 0), 0);
            due("held(0, 1)", x.held(0, 1), NONE);
            x.run(500);
        }
        x.back(0);
        due("behind BACK", x.held(0, 0), 0);
        due("alone", x.held(NONE, 0), 1);
    }

    private static void heldAsTimeComes() {
        Bench.sentence("HELD are STATES of TIMES k times UNIT u, as TIME comes to that");
        for (int unit : new int[] {1, 2, 8, 63, 64}) {
            RunsBack x = Bench.spaced(unit, 8, Bench.round());
            due("at first", x.held(NONE, 0), 1);
            if (unit > 1) {
                x.run(unit - 1);
                due("ahead of " + unit, x.held(NONE, 0), 1);
            }
            x.run(unit > 1 ? 1 : unit);
            due("at " + unit, x.held(NONE, 0), 2);
            due("held(1, 0)", x.held(1, 0), unit);
            x.run(unit);
            due("at twice " + unit, x.held(2, 0), 2 * unit);
        }
    }

    private static void heldTillOneComes() {
        Bench.sentence("k above 0 till the one of k and DEPTH d times 2 to the z comes");
        RunsBack x = Bench.spaced(8, 2, Bench.round());
        x.run(23);
        due("8 at 23", x.held(1, 0), 8);
        due("goes", x.held(1, 1), 24);
        x.run(1);
        due("8 at 24", x.held(1, 0), 16);
        due("16 goes", x.held(1, 1), 48);
        x.run(23);
        due("16 at 47", x.held(1, 0), 16);
        x.run(1);
        due("16 at 48", x.held(1, 0), 32);
        due("32 goes", x.held(1, 1), 32 + 64);
        RunsBack y = Bench.spaced(1, 1, Bench.round());
        int[][] held = {{0}, {0, 1}, {0, 2}, {0, 2, 3}, {0, 4}, {0, 4, 5}, {0, 4, 6}, {0, 4, 6, 7}, {0, 8}};
        for (int t = 0; t < held.length; t++) {
            due("how many at " + t, y.held(NONE, 0), held[t].length);
            for (int k = 0; k < held[t].length; k++) due("at " + t, y.held(k, 0), held[t][k]);
            y.run(1);
        }
    }

    private static void heldByEachSpacing() {
        Bench.sentence("UNIT u (1 .. 64 ..), DEPTH d (1 .. 8 ..)");
        int[][] spacings = {{1, 1}, {1, 8}, {2, 7}, {3, 3}, {64, 1}, {64, 8}};
        for (int[] s : spacings) {
            for (int t : new int[] {1, 2, 63, 64, 127, 128, 129, 511, 512, 1023, 1024, 2047, 2048, 2999, 3000}) {
                RunsBack x = Bench.spaced(s[0], s[1], Bench.round());
                Bench.go(x, t);
                holds(x, s[0], s[1]);
            }
        }
    }

    private static void heldAheadOfPokes() {
        Bench.sentence("as TIME comes to that (ahead of POKES of that TIME)");
        RunsBack x = Bench.spaced(4, 8, Bench.round());
        x.poke(5, WHOLE, 1);
        x.run(4);
        x.poke(5, WHOLE, 2);
        x.poke(5, WHOLE, 3);
        x.run(6);
        Bench.value(x, 3, 5, WHOLE, 1);
        Bench.value(x, 4, 5, WHOLE, 3);
        due("from 4", x.look(10), 0);
        Bench.value(x, 6, 5, WHOLE, 3);
        due("from 4", x.look(10), 2);
        x.back(4);
        Bench.value(x, 4, 5, WHOLE, 3);
        due("changes", x.at(4, 5, 2), 3);
        due("log", x.log(NONE, 0), 3);
        x.run(1);
        due("4 is held still", x.held(1, 0), 4);
        x.back(3);
        Bench.value(x, 3, 5, WHOLE, 1);
        x.run(1);
        Bench.value(x, 4, 5, WHOLE, 1);
    }

    private static void heldAsTold() {
        Bench.sentence("UNIT u (.. as it was told when the RUN began) .. DEPTH d (.. told likewise)");
        RunsBack x = Bench.spaced(3, 1, Bench.round());
        x.spacing(5, 2);
        x.run(30);
        holds(x, 3, 1);
        due("unit", x.look(4), 3);
        due("depth", x.look(5), 1);
        x.keep();
        x.begin();
        x.run(30);
        holds(x, 5, 2);
        x.use(0);
        holds(x, 3, 1);
        due("unit of the kept one", x.look(4), 3);
    }

    // ---- replays ----

    /** At 28 with unit 8 and depth 2: the times 0, 16 and 24 are held. */
    private static RunsBack at28() {
        return Bench.gone(28, Bench.counting());
    }

    private static void replays(RunsBack x, int t, int steps) {
        x.at(t, 0, 0);
        due("replayed to " + t, x.look(10), steps);
    }

    private static void replayOwnTime() {
        Bench.sentence("To REPLAY a TIME t (not the RUN's own TIME of now, which is there)");
        RunsBack x = at28();
        replays(x, 28, 0);
        replays(x, 27, 3);
        x.run(1);
        replays(x, 29, 0);
        replays(x, 28, 4);
        x.back(28);
        replays(x, 28, 0);
        due("in all", x.look(2), 3 + 4 + 4);
    }

    private static void replayFromLatest() {
        Bench.sentence("from the latest HELD one that is t at most on: as many STEPS as TIMES lie between are REPLAYED");
        RunsBack x = at28();
        int[][] rows = {{0, 0}, {1, 1}, {8, 8}, {15, 15}, {16, 0}, {17, 1}, {23, 7}, {24, 0}, {25, 1}, {27, 3}};
        int all = 0;
        for (int[] r : rows) {
            replays(x, r[0], r[1]);
            all += r[1];
        }
        due("in all", x.look(2), all);
    }

    private static void replayIsCounted() {
        Bench.sentence("(counted for that RUN, and for the latest call that may REPLAY)");
        RunsBack x = at28();
        x.state(15, 0);
        due("state()", x.look(10), 15);
        x.changed(22, 1);
        due("changed()", x.look(10), 6 + 7);
        x.changed(27, 0);
        due("changed(), the one of now is there", x.look(10), 3);
        x.last(1, 0);
        due("last()", x.look(10), 1);
        x.when(26, 0, WHOLE, 8);
        due("when()", x.look(10), 2);
        x.watch(0, true);
        x.watched(2);
        due("watched()", x.look(10), 1);
        due("back()", x.back(27), 3);
        due("back()", x.look(10), 3);
        due("in all", x.look(2), 15 + 13 + 3 + 1 + 2 + 1 + 3);
        x.begin();
        due("a new run has none", x.look(2), 0);
    }

    private static void refused(RunsBack x, String call, long got, long want) {
        due(call, got, want);
        due(call + " has", x.look(10), 0);
        x.at(15, 0, 0);
    }

    private static void refusedHasNone() {
        Bench.sentence("a call that is refused has 0");
        RunsBack x = at28();
        x.at(15, 0, 0);
        refused(x, "at()", x.at(29, 0, 0), NO);
        refused(x, "state()", x.state(15, 5), NO);
        refused(x, "last()", x.last(15, 40), NO_SUCH);
        refused(x, "when()", x.when(15, 0, 1, 2), NO_SUCH);
        refused(x, "changed()", x.changed(28, 0), NO);
        refused(x, "watched()", x.watched(29), NO_SUCH);
        refused(x, "pair()", x.pair(NONE, NONE, 0, 2), NO);
        refused(x, "back()", x.back(28), NONE);
        due("in all", x.look(2), 15 * 9);
        due("look(10) behind the last at()", x.look(10), 15);
    }

    private static void keptReplays() {
        Bench.sentence("(A KEPT RUN has its HELD ones, its LOG, its count as they were when it was KEPT; its count goes on.)");
        RunsBack x = at28();
        replays(x, 15, 15);
        x.poke(9, WHOLE, 1);
        x.keep();
        x.poke(9, WHOLE, 2);
        x.run(72);
        x.use(0);
        due("its count", x.look(2), 15);
        due("its held ones", x.held(NONE, 0), 3);
        due("its log", x.log(NONE, 0), 1);
        Bench.value(x, 28, 9, WHOLE, 1);
        replays(x, 28, 0);
        replays(x, 27, 3);
        due("goes on", x.look(2), 18);
        x.use(NONE);
        due("of now", x.look(2), 15);
        replays(x, 27, 27);
        due("goes on", x.look(2), 42);
        x.use(0);
        due("stays", x.look(2), 18);
    }

    // ---- the last change ----

    private static void lastChangeHalves() {
        Bench.sentence("while lo is less than hi: m is their half, rounded down; CHANGES at m (REPLAYED): are these c, "
            + "hi is m, else lo is m and 1");
        RunsBack x = at28();
        due("last(3, 0)", x.last(3, 0), 3);
        due("3; 1, 2", x.look(10), 3 + 1 + 2);
        due("last(5, 0)", x.last(5, 0), 3);
        due("5; 2, 4, 3", x.look(10), 5 + 2 + 4 + 3);
        due("last(24, 0)", x.last(24, 0), 24);
        due("24; 12, 18, 21, 23", x.look(10), 0 + 12 + 2 + 5 + 7);
        due("last(28, 1)", x.last(28, 1), 2);
        due("28; 14, 7, 3, 1, 2", x.look(10), 0 + 14 + 7 + 3 + 1 + 2);
    }

    private static void lastChangeAtEnds() {
        Bench.sentence("lo is 0, hi is t; .. It is lo");
        RunsBack x = Bench.begun(i(1, 0, 7), i(15, 1));
        x.poke(5, FLAG, 1);
        due("at 0, by 0", x.last(0, 5), 0);
        due("nothing is halved", x.look(10), 0);
        x.run(28);
        due("at 0, by 0", x.last(0, 5), 0);
        due("nothing is halved", x.look(10), 0);
        due("at 0, by 28", x.last(28, 5), 0);
        due("14, 7, 3, 1, 0", x.look(10), 14 + 7 + 3 + 1);
        due("at 1, by 1", x.last(1, 0), 1);
        due("1; 0", x.look(10), 1);
        x.poke(39, WHOLE, 4);
        due("at 28, by 28", x.last(28, 39), 28);
        due("14, 21, 25, 27", x.look(10), 14 + 5 + 1 + 3);
    }

    private static void lastChangeNone() {
        Bench.sentence("none, if c is 0");
        RunsBack x = at28();
        due("by 28", x.last(28, 39), NONE);
        due("28 is there", x.look(10), 0);
        due("by 15", x.last(15, 39), NONE);
        due("15", x.look(10), 15);
        due("by 0", x.last(0, 0), NONE);
        due("ahead of the first", x.last(1, 1), NONE);
        x.poke(39, NOTHING, 0);
        due("a poke that changes nothing", x.last(28, 39), NONE);
    }

    private static void lastChangeThereAndBack() {
        Bench.sentence("THE LAST CHANGE of a PLACE by t: with CHANGES c of it at t");
        RunsBack x = Bench.begun(Bench.round());
        x.poke(5, WHOLE, 1);
        x.run(10);
        x.poke(5, WHOLE, 2);
        x.poke(5, WHOLE, 1);
        x.run(10);
        x.poke(5, WHOLE, 1);
        x.run(5);
        due("there and back again", x.last(25, 5), 10);
        due("ahead of that", x.last(9, 5), 0);
    }

    // ---- when ----

    private static void whenIs(RunsBack x, int t, int number, int want, int steps) {
        due("when(" + t + ", 0, 2, " + number + ")", x.when(t, 0, WHOLE, number), want);
        due("replayed", x.look(10), steps);
    }

    private static void whenFromHeld() {
        Bench.sentence("HELD TIMES that are t at most, from the latest on: from that one on up to t");
        RunsBack x = at28();
        whenIs(x, 24, 8, 24, 0);
        whenIs(x, 25, 8, 25, 1);
        whenIs(x, 27, 8, 26, 3);
        whenIs(x, 23, 7, 23, 7);
        whenIs(x, 16, 5, 16, 0);
        whenIs(x, 15, 5, 15, 15);
        due("at 0", x.when(0, 0, NOTHING, 0), 0);
        due("replayed", x.look(10), 0);
        whenIs(x, 0, 0, NONE, 0);
    }

    private static void whenUpToNow() {
        Bench.sentence("(REPLAYED are all STEPS between, also up to the RUN's own TIME of now)");
        RunsBack x = at28();
        whenIs(x, 28, 9, 28, 4);
        whenIs(x, 28, 8, 26, 4);
        due("in all", x.look(2), 8);
        x.back(24);
        whenIs(x, 24, 8, 24, 0);
    }

    private static void whenByOthers() {
        Bench.sentence("(of others: up to one less than the one tried ahead of it) .. if there is none, the next HELD one");
        RunsBack x = at28();
        whenIs(x, 28, 7, 23, 4 + 7);
        whenIs(x, 24, 7, 23, 7);
        whenIs(x, 16, 4, 14, 15);
        whenIs(x, 28, 5, 17, 4 + 7);
        whenIs(x, 28, 4, 14, 4 + 7 + 15);
        due("at 0 alone", x.when(28, 0, NOTHING, 0), 0);
        due("all", x.look(10), 4 + 7 + 15);
        whenIs(x, 28, 10, NONE, 4 + 7 + 15);
        whenIs(x, 23, 8, NONE, 7 + 15);
        due("another sort", x.when(28, 0, FLAG, 1), NONE);
    }

    private static void whenByStatesAlone() {
        Bench.sentence("all STATES are gone through: the latest of these that has it");
        RunsBack x = Bench.begun(Bench.round());
        x.run(8);
        x.poke(5, WHOLE, 1);
        x.poke(5, WHOLE, 2);
        x.run(3);
        due("was never a STATE's", x.when(11, 5, WHOLE, 1), NONE);
        due("behind the pokes", x.when(8, 5, WHOLE, 2), 8);
        due("from 8", x.look(10), 0);
        due("NOTHING ahead of them", x.when(11, 5, NOTHING, 0), 7);
        due("3 and 7", x.look(10), 3 + 7);
    }

    // ---- back ----

    private static void backToEnds() {
        Bench.sentence("BACK to t (less than TIME): the RUN is as it was at t (REPLAYED)");
        RunsBack x = at28();
        due("back(28)", x.back(28), NONE);
        due("back(29)", x.back(29), NONE);
        due("back(-1)", x.back(-1), NONE);
        due("time", x.look(0), 28);
        due("how often", x.look(6), 0);
        due("back(27)", x.back(27), 3);
        due("time", x.look(0), 27);
        Bench.value(x, 27, 0, WHOLE, 9);
        due("outs", x.state(27, 2), 8);
        due("back(24)", x.back(24), 0);
        due("back(0)", x.back(0), 0);
        due("time", x.look(0), 0);
        Bench.value(x, 0, 0, NOTHING, 0);
        due("counter", x.state(0, 0), 0);
        due("back(0) at 0", x.back(0), NONE);
        due("how often", x.look(6), 3);
        due("its count stays", x.look(2), 3);
    }

    private static void backLog() {
        Bench.sentence("what the LOG has of STEPS that began at t or later goes");
        RunsBack x = Bench.begun(i(20, 0, 9), i(22, 1), i(15, 0));
        x.run(9);
        due("draws at 0, 3, 6", x.log(2, 0), 6);
        x.back(7);
        due("at 7", x.log(NONE, 0), 3);
        x.back(6);
        due("at 6", x.log(NONE, 0), 2);
        x.back(4);
        due("at 4", x.log(NONE, 0), 2);
        x.back(3);
        due("at 3", x.log(NONE, 0), 1);
        x.back(1);
        due("at 1", x.log(NONE, 0), 1);
        x.back(0);
        due("at 0", x.log(NONE, 0), 0);
        due("a draw doesn't wait", x.look(8), 0);
    }

    private static void backInputsInOrder() {
        Bench.sentence("INPUTS of these wait again ahead of all that wait, in their order");
        RunsBack x = Bench.begun(i(19, 0), i(15, 0));
        for (int v = 1; v <= 5; v++) x.give(v * 10);
        x.run(6);
        due("wait", x.look(8), 2);
        x.back(2);
        due("wait", x.look(8), 4);
        x.back(1);
        due("wait", x.look(8), 4);
        x.give(60);
        due("run(20)", x.run(20), 11);
        for (int k = 0; k < 6; k++) due("input " + k, x.log(k, 2), (k + 1) * 10);
        x.back(0);
        due("wait", x.look(8), 6);
        x.run(1);
        Bench.value(x, 1, 0, WHOLE, 10);
        x.begin();
        due("none wait", x.look(8), 0);
        x.run(1);
        due("none is left", x.look(0), 0);
    }

    private static void backMoreThanHundredWait() {
        Bench.sentence("INPUTS of these wait again ahead of all that wait (NONE if 100 do)");
        RunsBack x = Bench.begun(i(19, 0), i(15, 0));
        for (int v = 0; v < 100; v++) x.give(v);
        x.run(200);
        for (int v = 100; v < 199; v++) x.give(v);
        due("99 wait", x.look(8), 99);
        x.back(0);
        due("199 wait", x.look(8), 199);
        due("no more", x.give(1), NONE);
        due("199 wait", x.look(8), 199);
        due("run(198)", x.run(198), 198);
        due("100 wait", x.look(8), 100);
        due("no more", x.give(1), NONE);
        x.run(2);
        due("99 wait", x.look(8), 99);
        due("one more", x.give(199), 100);
        x.run(500);
        for (int k = 0; k < 200; k += 33) due("input " + k, x.log(k, 2), k);
        due("the last", x.log(199, 2), 199);
    }

    private static void backPokes() {
        Bench.sentence("POKES of later TIMES .. go");
        RunsBack x = Bench.begun(Bench.round());
        for (int t = 0; t < 5; t++) {
            x.poke(5, WHOLE, 10 * t);
            x.poke(5, WHOLE, 10 * t + 1);
            x.run(1);
        }
        due("log", x.log(NONE, 0), 10);
        x.back(3);
        due("those of 3 stay", x.log(NONE, 0), 8);
        Bench.value(x, 3, 5, WHOLE, 31);
        due("changes", x.at(3, 5, 2), 8);
        x.back(0);
        due("those of 0 stay", x.log(NONE, 0), 2);
        Bench.value(x, 0, 5, WHOLE, 1);
        due("hangs on its entry", x.hangs(1, 0, 0), 32);
        x.run(1);
        Bench.value(x, 1, 5, WHOLE, 1);
        x.run(9);
        x.back(3);
        due("those of earlier TIMES stay", x.log(NONE, 0), 2);
        Bench.value(x, 3, 5, WHOLE, 1);
    }

    private static void backCalls() {
        Bench.sentence("CALLS of STEPS that began at t or later .. go");
        RunsBack x = Bench.gone(9, Bench.calling());
        due("those of 0, 3, 6", x.call(NONE, 0), 3);
        x.back(7);
        due("at 7", x.call(NONE, 0), 3);
        due("stack", x.state(7, 10), 1);
        x.back(6);
        due("at 6", x.call(NONE, 0), 2);
        due("stack", x.state(6, 1), 0);
        x.back(1);
        due("at 1", x.call(NONE, 0), 1);
        x.back(0);
        due("at 0", x.call(NONE, 0), 0);
    }

    private static void backHeld() {
        Bench.sentence("STATES HELD of TIMES above t go (those that are no more HELD don't come back)");
        RunsBack x = Bench.gone(30, Bench.round());
        x.back(25);
        due("at 25", x.held(NONE, 0), 3);
        x.back(24);
        due("24 stays", x.held(2, 0), 24);
        x.back(23);
        due("24 goes", x.held(NONE, 0), 2);
        due("8 doesn't come back", x.held(1, 0), 16);
        x.back(16);
        due("16 stays", x.held(1, 0), 16);
        x.back(9);
        due("0 alone", x.held(NONE, 0), 1);
        x.run(6);
        due("at 15", x.held(NONE, 0), 1);
        x.run(1);
        due("16 comes anew", x.held(1, 0), 16);
        due("it goes", x.held(1, 1), 48);
        due("the most stays", x.look(3), 3);
        x.back(8);
        x.run(500);
        RunsBack y = Bench.gone(508, Bench.round());
        due("as many", x.held(NONE, 0), y.held(NONE, 0));
        Bench.sentence("BACK to a TIME whose STATE is no more HELD: it isn't HELD, till TIME comes to it anew");
        RunsBack z = Bench.gone(24, Bench.round());
        due("back(8)", z.back(8), 8);
        due("0 alone", z.held(NONE, 0), 1);
        z.run(1);
        z.back(7);
        z.run(1);
        due("8 comes anew", z.held(1, 0), 8);
    }

    private static void backStatus() {
        Bench.sentence("STATUS is anew");
        RunsBack x = Bench.gone(9, i(22, 0), i(0));
        due("over", x.look(1), 2);
        x.back(1);
        due("goes on", x.look(1), 0);
        due("run(9)", x.run(9), 1);
        due("over", x.look(1), 2);
        RunsBack y = Bench.gone(9, i(19, 0), i(11, 0, 0));
        y.give(5);
        y.run(9);
        due("trapped", y.look(1), 11);
        y.back(0);
        due("an INPUT waits", y.look(1), 0);
        y.run(1);
        y.poke(0, FLAG, 0);
        due("run(9)", y.run(9), 2);
        due("another trap", y.look(1), 15);
    }

    private static void backRunsOnAnew() {
        Bench.sentence("BACK to t: the RUN is as it was at t");
        RunsBack x = Bench.gone(100, Bench.counting());
        int check = x.state(100, 3);
        for (int t : new int[] {99, 64, 50, 1, 0}) {
            x.back(t);
            x.poke(30, WHOLE, t);
            x.run(5);
            x.back(t);
        }
        x.run(100);
        due("check", x.state(100, 3), check);
        due("outs", x.state(100, 2), 33);
        due("history", x.history(0, NONE, 0), 34);
    }

    // ---- what a value rests on ----

    /** Registers 1 and 2 have a step each, and 3 the one of the kind: how many steps does that rest on. */
    private static void rests(int[] one, int[] two, int[] row, int many) {
        RunsBack x = Bench.begun(one, two, row);
        x.give(5);
        due("run(3) of kind " + row[0], x.run(3), 3);
        due("status of kind " + row[0], x.look(1), 0);
        due("kind " + row[0] + " rests on", x.rests(3, row[1], NONE), many);
        due("the last of them", x.rests(3, row[1], many - 1), 2);
        due("behind it", x.rests(3, row[1], many), NONE);
    }

    private static void restsOfKinds() {
        Bench.sentence("A STEP PUTS a VALUE to one PLACE: r (kinds 1 .. 13, 19, 20, 22) ..; it LOOKS at s (3, 11, 14), at "
            + "s and t (4 .. 10, 12)");
        int[] wholeOne = i(1, 1, 3);
        int[] wholeTwo = i(1, 2, 4);
        int[] flagOne = i(2, 1, 1);
        int[] flagTwo = i(2, 2, 1);
        rests(wholeOne, wholeTwo, i(1, 3, 1), 1);
        rests(wholeOne, wholeTwo, i(2, 3, 1), 1);
        rests(wholeOne, wholeTwo, i(3, 3, 2), 2);
        for (int kind = 4; kind <= 10; kind++) {
            rests(wholeOne, wholeTwo, i(kind, 3, 1, 2), 3);
            rests(wholeOne, wholeTwo, i(kind, 3, 2, 2), 2);
        }
        rests(flagOne, flagTwo, i(10, 3, 1, 7), 2);
        rests(flagOne, flagTwo, i(11, 3, 2), 2);
        rests(flagOne, flagTwo, i(12, 3, 1, 2), 3);
        rests(wholeOne, wholeTwo, i(13, 3, 1), 2);
        rests(wholeOne, wholeTwo, i(19, 3), 1);
        rests(wholeOne, wholeTwo, i(20, 3, 5), 1);
        rests(wholeOne, wholeTwo, i(22, 3), 1);
        rests(wholeOne, wholeTwo, i(4, 1, 1, 2), 3);
    }

    private static void restsOfCells() {
        Bench.sentence("the CELL (14); .. at s and the CELL (13), at r (14)");
        RunsBack x = Bench.gone(5, i(1, 1, 31), i(1, 2, 4), i(14, 1, 2), i(1, 1, 31), i(13, 3, 1));
        due("the cell", x.rests(3, 39, NONE), 3);
        due("r is not put to", x.rests(3, 1, NONE), 1);
        due("from the cell", x.rests(5, 3, NONE), 5);
        for (int n = 0; n < 5; n++) due("rising", x.rests(5, 3, n), n);
        RunsBack y = Bench.gone(2, i(1, 1, 0), i(13, 1, 1));
        due("of a CELL to which none was PUT", y.rests(2, 1, NONE), 2);
    }

    private static void restsOnEntries() {
        Bench.sentence("at the LOG's entry (19, 20)");
        RunsBack x = Bench.begun(i(19, 0), i(20, 1, 5), i(4, 2, 0, 1), i(1, 3, 0), i(14, 3, 2), i(9, 0, 1, 2));
        x.give(3);
        x.run(6);
        due("the input at 1", x.hangs(0, 1, 0), 1);
        due("the input ahead", x.hangs(0, 0, 0), 0);
        due("the draw at 1", x.hangs(1, 1, 0), 0);
        due("the draw at 2", x.hangs(1, 2, 0), 2);
        due("the input at 3", x.hangs(0, 3, 0), 1 + 4);
        due("the draw at 3", x.hangs(1, 3, 0), 2 + 4);
        due("the input's cells at 5", x.hangs(0, 5, 1), 1);
        due("the input at 6", x.hangs(0, 6, 0), 1 + 4);
        due("the draw at 6", x.hangs(1, 6, 0), 1 + 2 + 4);
    }

    private static void restsOfNothing() {
        Bench.sentence("of a PLACE to which none was PUT on nothing");
        RunsBack x = Bench.gone(5, Bench.counting());
        due("at 0", x.rests(0, 0, NONE), 0);
        due("at 0, the first", x.rests(0, 0, 0), NONE);
        due("at 5", x.rests(5, 39, NONE), 0);
        RunsBack y = Bench.gone(1, i(3, 0, 5));
        due("of what looked there its own step", y.rests(1, 0, NONE), 1);
    }

    private static void restsOfTraps() {
        Bench.sentence("one that TRAPS does neither");
        RunsBack x = Bench.gone(9, i(1, 0, 5), i(1, 1, 0), i(7, 0, 0, 1));
        due("trapped", x.look(1), 12);
        due("how many", x.rests(3, 0, NONE), 1);
        due("the first", x.rests(3, 0, 0), 0);
        RunsBack y = Bench.gone(9, i(1, 0, 32), i(14, 0, 0));
        for (int p = 8; p < 40; p++) due("cell " + p, y.rests(2, p, NONE), 0);
    }

    private static void restsOfPokes() {
        Bench.sentence("behind a POKE on the LOG's entry alone");
        RunsBack x = Bench.begun(i(19, 0), i(3, 1, 0), i(3, 2, 1));
        x.give(4);
        x.run(2);
        due("on the input", x.hangs(0, 2, 0), 1 + 2);
        x.poke(1, WHOLE, 4);
        due("the input alone", x.hangs(0, 2, 0), 1);
        due("the poke", x.hangs(1, 2, 0), 2);
        due("no step", x.rests(2, 1, NONE), 0);
        x.run(1);
        due("what looked at it", x.hangs(1, 3, 0), 2 + 4);
        due("its step alone", x.rests(3, 2, NONE), 1);
        x.poke(1, WHOLE, 4);
        due("the later poke", x.hangs(2, 3, 0), 2);
        due("the earlier one", x.hangs(1, 3, 0), 4);
        due("as it was at 2", x.hangs(1, 2, 0), 2);
    }

    private static void restsAsItDid() {
        Bench.sentence("on all on which those RESTED that it LOOKED at as it did");
        RunsBack x = Bench.gone(4, i(1, 0, 5), i(3, 1, 0), i(1, 0, 6), i(3, 2, 1));
        due("how many", x.rests(4, 2, NONE), 3);
        due("0", x.rests(4, 2, 0), 0);
        due("1", x.rests(4, 2, 1), 1);
        due("3", x.rests(4, 2, 2), 3);
        due("the later one alone", x.rests(4, 0, 0), 2);
        due("how many", x.rests(4, 0, NONE), 1);
        due("the earlier at 2", x.rests(2, 0, 0), 0);
    }

    private static void restsOfSameValue() {
        Bench.sentence("the latest STEP that PUT one there (also the same VALUE)");
        RunsBack x = Bench.gone(3, i(1, 0, 5), i(1, 0, 5), i(3, 0, 0));
        due("at 2", x.rests(2, 0, 0), 1);
        due("how many at 2", x.rests(2, 0, NONE), 1);
        due("at 3", x.rests(3, 0, 0), 1);
        due("how many at 3", x.rests(3, 0, NONE), 2);
        due("one change", x.at(3, 0, 2), 1);
    }

    private static void restsBehindBack() {
        Bench.sentence("The VALUE of a PLACE RESTS on the latest STEP that PUT one there (behind BACK)");
        RunsBack x = Bench.gone(6, i(1, 0, 1), i(4, 0, 0, 0), i(15, 1));
        due("at 6", x.rests(6, 0, NONE), 4);
        x.back(1);
        due("at 1", x.rests(1, 0, NONE), 1);
        x.poke(0, WHOLE, 3);
        x.run(3);
        due("at 4", x.rests(4, 0, NONE), 2);
        due("1", x.rests(4, 0, 0), 1);
        due("3", x.rests(4, 0, 1), 3);
        due("at 5", x.rests(5, 0, NONE), NO_SUCH);
    }

    // ---- two runs beside each other ----

    /** Begins a run that calls 40 + d for each digit d: with the stack empty, in the order of the digits. */
    private static void callDigits(RunsBack x, String digits) {
        for (int n = 0; n < 40; n++) {
            if (n < digits.length()) x.code(n, 17, 40 + digits.charAt(n) - '0', 0, 0);
            else x.code(n, 0, 0, 0, 0);
        }
        for (int d = 0; d < 10; d++) x.code(40 + d, 18, 0, 0, 0);
        x.begin();
        x.run(500);
    }

    private static void pairs(String one, String other, int... want) {
        RunsBack x = new RunsBack();
        callDigits(x, one);
        x.keep();
        callDigits(x, other);
        due(one + " beside " + other, x.align(0, NONE), want.length / 2);
        for (int n = 0; n < want.length; n++) {
            due(one + " beside " + other + ": pair " + n / 2, x.pair(0, NONE, n / 2, n % 2), want[n]);
        }
        due("behind the last", x.pair(0, NONE, want.length / 2, 0), NO);
        due("one more", x.pair(0, NONE, want.length / 2 + 1, 0), NO);
    }

    private static void pairsAsManyAsCanBe() {
        Bench.sentence("PAIRS of a CALL of the one and one of the other with the same p .., both rising: as many as can be");
        pairs("1", "1", 0, 0);
        pairs("12", "21", 0, 1);
        pairs("123", "231", 1, 0, 2, 1);
        pairs("3123", "1230", 1, 0, 2, 1, 3, 2);
        pairs("1234", "4321", 0, 3);
        pairs("90129", "01299", 1, 0, 2, 1, 3, 2, 4, 3);
    }

    private static void pairsFirst() {
        Bench.sentence("of all such rows the one whose PAIRS are first (CALL of the first RUN, then of the other one, PAIR "
            + "by PAIR)");
        pairs("11", "1", 0, 0);
        pairs("1", "11", 0, 0);
        pairs("111", "11", 0, 0, 1, 1);
        pairs("11", "111", 0, 0, 1, 1);
        pairs("121", "11", 0, 0, 2, 1);
        pairs("1212", "2121", 0, 1, 1, 2, 2, 3);
        pairs("12", "2112", 0, 1, 1, 3);
        pairs("1221", "2112", 0, 1, 1, 3);
        pairs("2112", "1221", 0, 1, 1, 3);
    }

    /** One after the other in one object, shorter ones behind longer ones. */
    private static void pairsOfOthersBehind() {
        Bench.sentence("TWO RUNS LAID BESIDE EACH OTHER .. as many as can be (behind two others)");
        RunsBack x = new RunsBack();
        for (String digits : new String[] {"912", "00012", "546", "465"}) {
            callDigits(x, digits);
            x.keep();
        }
        due("912 beside 00012", x.align(0, 1), 2);
        due("546 beside 465", x.align(2, 3), 2);
        due("the first", x.pair(2, 3, 0, 0) * 10 + x.pair(2, 3, 0, 1), 10);
        due("the next", x.pair(2, 3, 1, 0) * 10 + x.pair(2, 3, 1, 1), 21);
        due("00012 beside 912", x.align(1, 0), 2);
        due("465 beside 546", x.align(3, 2), 2);
        due("the first", x.pair(3, 2, 0, 0) * 10 + x.pair(3, 2, 0, 1), 1);
        due("the next", x.pair(3, 2, 1, 0) * 10 + x.pair(3, 2, 1, 1), 12);
    }

    private static void pairsOfNone() {
        Bench.sentence("TWO RUNS LAID BESIDE EACH OTHER: PAIRS .. (none)");
        pairs("", "");
        pairs("", "123");
        pairs("123", "");
        pairs("111", "222");
    }

    private static void pairsOfHundred() {
        Bench.sentence("CALLS .. the first 100 .. as many PAIRS as can be");
        RunsBack x = Bench.gone(400, Bench.calling());
        x.keep();
        due("itself", x.align(NONE, NONE), 100);
        due("the last", x.pair(NONE, NONE, 99, 0), 99);
        due("the last, of the other", x.pair(NONE, NONE, 99, 1), 99);
        due("behind", x.pair(NONE, NONE, 100, 0), NO);
        x.back(298);
        due("100 still", x.align(0, NONE), 100);
        x.back(297);
        due("99", x.align(0, NONE), 99);
        due("99, the other way", x.align(NONE, 0), 99);
        x.back(0);
        due("0", x.align(0, NONE), 0);
    }

    private static void pairsByStack() {
        Bench.sentence("with the same p and as many on the STACK");
        RunsBack x = Bench.gone(9, i(17, 4), i(17, 6), i(0), i(0), i(17, 6), i(18), i(18));
        x.keep();
        due("calls", x.call(NONE, 0), 3);
        x.code(0, 17, 6, 0, 0);
        x.begin();
        x.run(9);
        due("calls", x.call(NONE, 0), 2);
        due("pairs", x.align(0, NONE), 1);
        due("of one", x.pair(0, NONE, 0, 0), 2);
        due("of the other: the first", x.pair(0, NONE, 0, 1), 0);
    }

    private static void pairsUnlike() {
        Bench.sentence("UNLIKE at a PAIR: PLACES whose VALUES are not the same in both STATES of the TIMES at which those "
            + "STEPS began");
        RunsBack x = Bench.begun(i(22, 7), i(17, 3), i(0), i(1, 0, 9), i(18));
        x.poke(0, WHOLE, 1);
        x.poke(8, WHOLE, 1);
        x.run(1);
        x.poke(39, FLAG, 0);
        x.run(9);
        x.keep();
        x.begin();
        x.poke(0, FLAG, 1);
        x.poke(8, WHOLE, 1);
        x.run(1);
        x.poke(39, WHOLE, 0);
        x.run(9);
        due("the same number, another SORT", x.pair(0, NONE, 0, 2), 1);
        due("cells", x.pair(0, NONE, 0, 3), MIN);
        due("replayed, 1 of each", x.look(10), 2);
        due("itself", x.pair(0, 0, 0, 3), 0);
    }
}
