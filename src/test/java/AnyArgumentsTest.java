import java.util.Random;

/** Calls with any arguments in any order, far beyond 512: none of them may throw or fail to end. */
public final class AnyArgumentsTest {
    private static final int[] EDGES = {Integer.MIN_VALUE, Integer.MIN_VALUE + 1, -1000001, -65, -2, -1, 0, 1, 2, 3,
        7, 8, 9, 31, 32, 39, 40, 63, 64, 65, 99, 100, 101, 499, 500, 501, 799, 800, 801, 1000, 1001, 2999, 3000, 3001,
        Integer.MAX_VALUE - 1, Integer.MAX_VALUE};
    private static Random random;

    private static int any() {
        switch (random.nextInt(4)) {
            case 0: return EDGES[random.nextInt(EDGES.length)];
            case 1: return random.nextInt();
            case 2: return random.nextInt(10) - 1;
            default: return random.nextInt(70) - 2;
        }
    }

    public static void main(String[] args) {
        for (int round = 0; round < 60; round++) {
            random = new Random(77L * round + 5);
            RunsBack x = new RunsBack();
            if (round % 2 == 0) prepare(x);
            for (int n = 0; n < 5000; n++) {
                try {
                    once(x, random.nextInt(40));
                } catch (RuntimeException e) {
                    System.out.println("round " + round + " call " + n + " threw " + e);
                    e.printStackTrace(System.out);
                    System.exit(1);
                }
            }
        }
        System.out.println("no call threw");
    }

    /** A run that goes far: inputs, draws, cells, calls. */
    private static void prepare(RunsBack x) {
        int[][] rows = {{20, 0, 32, 0}, {14, 0, 0, 0}, {17, 6, 0, 0}, {20, 1, 32, 0}, {13, 2, 1, 0}, {15, 0, 0, 0},
            {10, 3, 0, 1}, {16, 3, 9, 0}, {18, 0, 0, 0}, {19, 4, 0, 0}, {17, 8, 0, 0}, {18, 0, 0, 0}};
        for (int i = 0; i < rows.length; i++) x.code(i, rows[i][0], rows[i][1], rows[i][2], rows[i][3]);
        x.spacing(1 + random.nextInt(4), 1 + random.nextInt(8));
        x.begin();
        x.run(500);
    }

    private static void once(RunsBack x, int which) {
        switch (which) {
            case 0: case 1: case 2: x.code(any(), any(), any(), any(), any()); break;
            case 3: x.spacing(any(), any()); break;
            case 4: if (random.nextInt(20) == 0) x.begin(); break;
            case 5: case 6: case 7: case 8: x.give(any()); break;
            case 9: x.seed(any()); break;
            case 10: case 11: case 12: x.poke(any(), any(), any()); break;
            case 13: case 14: case 15: x.run(any()); break;
            case 16: x.watch(any(), random.nextBoolean()); break;
            case 17: x.back(any()); break;
            case 18: if (random.nextInt(300) == 0) x.keep(); break;
            case 19: x.use(any()); break;
            case 20: x.at(any(), any(), any()); break;
            case 21: x.state(any(), any()); break;
            case 22: x.last(any(), any()); break;
            case 23: x.when(any(), any(), any(), any()); break;
            case 24: x.changed(any(), any()); break;
            case 25: x.watched(any()); break;
            case 26: x.rests(any(), any(), any()); break;
            case 27: x.hangs(any(), any(), any()); break;
            case 28: x.history(any(), any(), any()); break;
            case 29: x.done(any(), any()); break;
            case 30: x.call(any(), any()); break;
            case 31: x.log(any(), any()); break;
            case 32: x.held(any(), any()); break;
            case 33: x.would(any(), any(), any()); break;
            case 34: x.gap(any(), any(), any()); break;
            case 35: x.sparing(any(), any(), any()); break;
            case 36: x.align(any(), any()); break;
            case 37: x.pair(any(), any(), any(), any()); break;
            case 38: x.parts(any(), any()); break;
            default: x.look(any());
        }
    }
}
