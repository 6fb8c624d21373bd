import java.util.TreeSet;

/** What the tests of the boundary cases share: small programs, and answers that are due. */
final class Bench {
    static final int NONE = -1;
    static final int NO_SUCH = -2;
    static final int NO = -1000001;
    static final int MIN = Integer.MIN_VALUE;
    static final int MAX = Integer.MAX_VALUE;
    static final int NOTHING = 0;
    static final int FLAG = 1;
    static final int WHOLE = 2;
    /** The time and the counter at which nearlyFull() stands. */
    static final int NEARLY_FULL_TIME = 853;
    static final int NEARLY_FULL_COUNTER = 53;

    private static String sentence = "";
    private static int wrong = 0;

    private Bench() {
    }

    /** The document's words that the answers behind this are due by. */
    static void sentence(String words) {
        sentence = words;
    }

    static void due(String call, long got, long want) {
        if (got != want) {
            wrong++;
            System.out.println(sentence + "\n    " + call + " answered " + got + ", due is " + want);
        }
    }

    static void due(String call, boolean got, boolean want) {
        due(call, got ? 1 : 0, want ? 1 : 0);
    }

    static void end() {
        System.out.println(wrong == 0 ? "all answers are as due" : wrong + " answers are not as due");
        if (wrong != 0) System.exit(1);
    }

    static int[] i(int... row) {
        return row;
    }

    static void load(RunsBack x, int from, int[]... rows) {
        for (int n = 0; n < rows.length; n++) {
            int[] r = {0, 0, 0, 0};
            System.arraycopy(rows[n], 0, r, 0, rows[n].length);
            if (!x.code(from + n, r[0], r[1], r[2], r[3])) throw new IllegalArgumentException("row " + n);
        }
    }

    /** A new object with these instructions from 0 on. */
    static RunsBack with(int[]... rows) {
        RunsBack x = new RunsBack();
        load(x, 0, rows);
        return x;
    }

    static RunsBack begun(int[]... rows) {
        RunsBack x = with(rows);
        x.begin();
        return x;
    }

    static RunsBack gone(int steps, int[]... rows) {
        RunsBack x = begun(rows);
        go(x, steps);
        return x;
    }

    static RunsBack spaced(int unit, int depth, int[]... rows) {
        RunsBack x = with(rows);
        x.spacing(unit, depth);
        x.begin();
        return x;
    }

    /** As many steps, by calls of 500 at most: how many were done. */
    static int go(RunsBack x, int steps) {
        int done = 0;
        for (int left = steps; left > 0; left -= 500) done += x.run(Math.min(500, left));
        return done;
    }

    /** Goes round for ever and changes nothing. */
    static int[][] round() {
        return new int[][] {i(15, 0)};
    }

    /** Register 0 is 0 at time 1; 1 at time 3, 2 at time 6: each 3 steps one more. */
    static int[][] counting() {
        return new int[][] {i(1, 0, 0), i(1, 1, 1), i(4, 0, 0, 1), i(21, 0), i(15, 2)};
    }

    /** A call each 3 steps, with an empty stack: those of the times 0, 3, 6 .. */
    static int[][] calling() {
        return new int[][] {i(17, 2), i(15, 0), i(18)};
    }

    /**
     * 799 draws are in the log, at time 853 and counter 53, where rest begins; by steps, as an
     * object has no 800 calls.
     */
    static RunsBack nearlyFull(int[]... rest) {
        RunsBack x = with(i(1, 1, 0), i(1, 2, 1), i(1, 3, 17));
        for (int n = 3; n < 50; n++) x.code(n, 20, 0, 1000, 0);
        load(x, 50, i(4, 1, 1, 2), i(9, 4, 1, 3), i(16, 4, 3));
        load(x, NEARLY_FULL_COUNTER, rest);
        x.begin();
        go(x, NEARLY_FULL_TIME);
        return x;
    }

    /** One instruction at 0, done with these values (place, sort, number) poked ahead of it. */
    static RunsBack stepped(int[] row, int[]... values) {
        RunsBack x = begun(row);
        for (int[] v : values) x.poke(v[0], v[1], v[2]);
        due("run(1)", x.run(1), 1);
        return x;
    }

    /** The number of units at whose coming that of k goes, by halving. */
    static int goesWith(int k, int depth) {
        int two = 1;
        for (int rest = k; rest % 2 == 0; rest /= 2) two *= 2;
        return k + depth * two;
    }

    /** What is held at t, in units, as it comes and goes unit by unit. */
    static TreeSet<Integer> heldUnits(int unit, int depth, int t) {
        TreeSet<Integer> held = new TreeSet<>();
        held.add(0);
        for (int k = 1; k * unit <= t; k++) comes(held, k, depth);
        return held;
    }

    private static void comes(TreeSet<Integer> held, int k, int depth) {
        held.removeIf(h -> h > 0 && goesWith(h, depth) == k);
        held.add(k);
    }

    /** The most that are held at once, up to t. */
    static int mostHeld(int unit, int depth, int t) {
        TreeSet<Integer> held = heldUnits(unit, depth, 0);
        int most = held.size();
        for (int k = 1; k * unit <= t; k++) {
            comes(held, k, depth);
            most = Math.max(most, held.size());
        }
        return most;
    }

    static void value(RunsBack x, int t, int place, int sort, int number) {
        due("at(" + t + ", " + place + ", 0)", x.at(t, place, 0), sort);
        due("at(" + t + ", " + place + ", 1)", x.at(t, place, 1), number);
    }
}
