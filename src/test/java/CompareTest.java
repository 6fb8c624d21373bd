import java.util.Random;

/** Random calls on RunsBack and on Naive beside it; every answer must be the same. */
public final class CompareTest {
    private final Random random;
    private final int round;
    private final RunsBack x = new RunsBack();
    private final Naive y = new Naive();
    private final StringBuilder told = new StringBuilder();
    private boolean wrong = false;
    private int calls = 0;

    private CompareTest(int round) {
        this.round = round;
        random = new Random(1000003L * round + 17);
    }

    public static void main(String[] args) {
        int rounds = args.length > 0 ? Integer.parseInt(args[0]) : 1500;
        int bad = 0;
        for (int i = 0; i < rounds && bad < 3; i++) {
            CompareTest test = new CompareTest(i);
            test.go();
            if (test.wrong) bad++;
        }
        System.out.println(bad == 0 ? "all answers are as due" : bad + " rounds are not as due");
        if (bad != 0) System.exit(1);
    }

    private void due(String call, int got, int want) {
        calls++;
        told.append(call).append(" -> ").append(got).append('\n');
        if (got != want) {
            wrong = true;
            String t = told.toString();
            System.out.println("round " + round + ":\n" + t.substring(Math.max(0, t.length() - 2500))
                + call + " answered " + got + ", due is " + want);
        }
    }

    private void due(String call, boolean got, boolean want) {
        due(call, got ? 1 : 0, want ? 1 : 0);
    }

    private int any(int from, int to) {
        return from + random.nextInt(to - from + 1);
    }

    private boolean rarely(int n) {
        return random.nextInt(n) == 0;
    }

    private void go() {
        if (rarely(4)) bare();
        int unit = rarely(2) ? any(1, 5) : any(1, 64);
        spacing(unit, any(1, 8));
        program();
        begin();
        while (calls < 500 && !wrong) once();
    }

    private void bare() {
        for (int i = 0; i < 40; i++) {
            if (rarely(3)) ask();
            else once();
        }
    }

    private void program() {
        switch (any(0, 3)) {
            case 0:
                for (int i = 0; i < 64; i++) wildInstruction(any(0, 63));
                break;
            case 1:
                callingProgram();
                break;
            default:
                tameProgram();
        }
    }

    private void code(int at, int kind, int a, int b, int c) {
        due("code(" + at + ", " + kind + ", " + a + ", " + b + ", " + c + ")",
            x.code(at, kind, a, b, c), y.code(at, kind, a, b, c));
    }

    private void wildInstruction(int at) {
        int b = rarely(3) ? any(0, 1) : any(-1, 9);
        code(at, any(-1, 23), any(-1, 8), b, any(-1, 8));
    }

    /** Registers 0 .. 3 are wholes, 4 and 5 flags, 6 the number of a cell, 7 anything. */
    private void tameProgram() {
        for (int i = 0; i < 4; i++) code(i, 1, i, any(-3, 9), 0);
        code(4, 2, 4, any(0, 1), 0);
        code(5, 2, 5, any(0, 1), 0);
        code(6, 1, 6, any(0, 31), 0);
        int end = any(15, 62);
        int procedure = any(end - 6, end - 2);
        for (int at = 7; at < end; at++) tameInstruction(at, 7, procedure);
        code(end, 15, any(7, 9), 0, 0);
        if (rarely(2)) code(procedure + 1, 18, 0, 0, 0);
        if (rarely(8)) wildInstruction(any(0, 63));
    }

    private void tameInstruction(int at, int start, int procedure) {
        int w = any(0, 3), v = any(0, 3), u = any(0, 3);
        switch (any(0, 19)) {
            case 0: code(at, 1, w, any(-2, 40), 0); break;
            case 1: code(at, 2, any(4, 5), any(0, 1), 0); break;
            case 2: code(at, 3, 7, any(0, 7), 0); break;
            case 3: code(at, any(4, 6), w, v, u); break;
            case 4: code(at, rarely(6) ? any(7, 8) : 4, w, v, u); break;
            case 5: code(at, 9, any(4, 5), v, u); break;
            case 6: code(at, 10, any(4, 5), any(0, 7), any(0, 7)); break;
            case 7: code(at, 11, any(4, 5), any(4, 5), 0); break;
            case 8: code(at, 12, any(4, 5), any(4, 5), any(4, 5)); break;
            case 9: code(at, 13, 7, 6, 0); break;
            case 10: code(at, 14, 6, any(0, 7), 0); break;
            case 11: code(at, 20, 6, any(1, 32), 0); break;
            case 12: code(at, 16, any(4, 5), any(start, at + 2), 0); break;
            case 13: code(at, rarely(3) ? 17 : 21, any(0, 7), 0, 0); break;
            case 14: code(at, rarely(4) ? 19 : 21, w, 0, 0); break;
            case 15: code(at, 20, w, any(1, 1000), 0); break;
            case 16: code(at, 21, any(0, 7), 0, 0); break;
            case 17: code(at, 22, 7, 0, 0); break;
            case 18: code(at, 1, 6, any(0, 31), 0); break;
            default: code(at, rarely(2) ? 17 : 4, rarely(2) ? procedure : any(0, 3), any(0, 3), any(0, 3));
        }
    }

    /** Many calls to few places, chosen by draws, so that runs lie unlike beside each other. */
    private void callingProgram() {
        code(0, 20, 0, any(2, 6), 0);
        code(1, 1, 1, 1, 0);
        code(2, 9, 4, 0, 1);
        code(3, 16, 4, 8, 0);
        code(4, 17, 20, 0, 0);
        code(5, 17, rarely(2) ? 20 : 25, 0, 0);
        code(6, 14, 0, 1, 0);
        code(7, 15, 0, 0, 0);
        code(8, 17, 25, 0, 0);
        code(9, 15, rarely(3) ? 4 : 0, 0, 0);
        code(20, 4, 2, 1, 0);
        code(21, rarely(2) ? 17 : 4, 25, 1, 0);
        code(22, 18, 0, 0, 0);
        code(25, rarely(2) ? 20 : 19, 3, 3, 0);
        code(26, 21, 3, 0, 0);
        code(27, rarely(9) ? 17 : 18, 25, 0, 0);
    }

    private void spacing(int unit, int depth) {
        due("spacing(" + unit + ", " + depth + ")", x.spacing(unit, depth), y.spacing(unit, depth));
    }

    private void begin() {
        due("begin()", x.begin(), y.begin());
    }

    private void once() {
        int time = y.now == null ? 0 : y.now.machine.time;
        switch (any(0, 30)) {
            case 0: case 1: case 2: case 3: run(any(1, 60)); break;
            case 4: run(rarely(8) ? any(-1, 501) : any(100, 500)); break;
            case 5: case 6: case 7: give(); break;
            case 8: if (rarely(4)) seed(any(-99999, 99999)); break;
            case 9: case 10: poke(); break;
            case 11: watch(); break;
            case 12: if (rarely(2)) back(any(-1, time)); break;
            case 13: back(Math.max(0, time - any(0, 20))); break;
            case 14: if (rarely(3)) keep(); break;
            case 15: use(any(-1, rarely(9) ? 4 : y.kept.size() - 1)); break;
            case 16: use(-1); break;
            case 17: if (rarely(8) && calls < 430) restart(); break;
            case 18: if (rarely(3)) manyGive(); break;
            default: ask();
        }
    }

    private void restart() {
        if (rarely(2)) program();
        if (rarely(2)) spacing(any(0, 65), any(0, 9));
        begin();
    }

    private void manyGive() {
        for (int i = any(5, 30); i > 0 && calls < 500; i--) give();
    }

    private void run(int n) {
        due("run(" + n + ")", x.run(n), y.run(n));
        if (rarely(3)) look(any(0, 3));
    }

    private void give() {
        int v = any(-5, 40);
        due("give(" + v + ")", x.give(v), y.give(v));
    }

    private void seed(int v) {
        due("seed(" + v + ")", x.seed(v), y.seed(v));
    }

    private void poke() {
        int place = rarely(12) ? any(-1, 40) : rarely(2) ? any(0, 7) : any(0, 39);
        int sort = rarely(9) ? any(-1, 3) : place == 4 || place == 5 ? 1 : 2;
        int number = rarely(2) ? any(0, 1) : any(-2, 33);
        due("poke(" + place + ", " + sort + ", " + number + ")",
            x.poke(place, sort, number), y.poke(place, sort, number));
    }

    private void watch() {
        int place = any(-1, 40);
        boolean on = rarely(3);
        due("watch(" + place + ", " + on + ")", x.watch(place, on), y.watch(place, on));
    }

    private void back(int t) {
        due("back(" + t + ")", x.back(t), y.back(t));
        look(any(0, 12));
        if (rarely(2)) look(8);
    }

    private void keep() {
        due("keep()", x.keep(), y.keep());
    }

    private void use(int run) {
        due("use(" + run + ")", x.use(run), y.use(run));
    }

    private void look(int what) {
        due("look(" + what + ")", x.look(what), y.look(what));
    }

    private int time() {
        Naive.Run r = y.of(y.asked);
        int most = r == null ? 3 : r.machine.time;
        return rarely(10) ? most : rarely(12) ? any(-1, most + 2) : any(0, most);
    }

    private int place() {
        return rarely(15) ? any(-1, 40) : rarely(2) ? any(0, 7) : any(8, 39);
    }

    private int what(int most) {
        return rarely(12) ? any(-1, most + 1) : any(0, most);
    }

    private void ask() {
        int t = time(), place = place();
        Naive.Run r = y.of(y.asked);
        int entries = r == null ? 3 : r.log.size();
        switch (any(0, 19)) {
            case 0: {
                int w = what(2);
                due("at(" + t + ", " + place + ", " + w + ")", x.at(t, place, w), y.at(t, place, w));
                break;
            }
            case 1: {
                int w = rarely(3) ? any(9, 18) : what(4);
                due("state(" + t + ", " + w + ")", x.state(t, w), y.state(t, w));
                break;
            }
            case 2:
                due("last(" + t + ", " + place + ")", x.last(t, place), y.last(t, place));
                break;
            case 3: {
                int s = rarely(6) ? any(-1, 3) : place == 4 || place == 5 ? 1 : 2;
                int n = s < 2 ? any(0, 1) : any(-3, 33);
                due("when(" + t + ", " + place + ", " + s + ", " + n + ")",
                    x.when(t, place, s, n), y.when(t, place, s, n));
                break;
            }
            case 4: {
                int w = what(1);
                due("changed(" + t + ", " + w + ")", x.changed(t, w), y.changed(t, w));
                break;
            }
            case 5:
                due("watched(" + t + ")", x.watched(t), y.watched(t));
                break;
            case 6: case 7: {
                int n = x.rests(t, place, -1);
                due("rests(" + t + ", " + place + ", -1)", n, y.rests(t, place, -1));
                int i = any(-2, Math.max(0, n));
                due("rests(" + t + ", " + place + ", " + i + ")", x.rests(t, place, i), y.rests(t, place, i));
                break;
            }
            case 8: {
                int k = any(-1, entries), w = what(1);
                due("hangs(" + k + ", " + t + ", " + w + ")", x.hangs(k, t, w), y.hangs(k, t, w));
                break;
            }
            case 9: {
                int n = x.history(place, -1, 0);
                due("history(" + place + ", -1, 0)", n, y.history(place, -1, 0));
                int k = any(-2, Math.max(0, n)), w = what(2);
                due("history(" + place + ", " + k + ", " + w + ")", x.history(place, k, w), y.history(place, k, w));
                break;
            }
            case 10: {
                int at = any(-1, 65);
                due("done(" + t + ", " + at + ")", x.done(t, at), y.done(t, at));
                break;
            }
            case 11: {
                int k = any(-2, r == null ? 1 : r.calls.size()), w = what(2);
                due("call(" + k + ", " + w + ")", x.call(k, w), y.call(k, w));
                break;
            }
            case 12: {
                int k = any(-2, entries), w = what(4);
                due("log(" + k + ", " + w + ")", x.log(k, w), y.log(k, w));
                break;
            }
            case 13: {
                int k = any(-2, r == null ? 1 : r.held.size()), w = what(1);
                due("held(" + k + ", " + w + ")", x.held(k, w), y.held(k, w));
                break;
            }
            case 14: {
                int u = any(0, 65), d = any(0, 9), tt = any(-1, 3001);
                due("would(" + u + ", " + d + ", " + tt + ")", x.would(u, d, tt), y.would(u, d, tt));
                due("gap(" + u + ", " + d + ", " + tt + ")", x.gap(u, d, tt), y.gap(u, d, tt));
                break;
            }
            case 15: {
                int d = any(0, 9), tt = any(-1, 3001), many = any(-1, 40);
                due("sparing(" + d + ", " + tt + ", " + many + ")", x.sparing(d, tt, many), y.sparing(d, tt, many));
                break;
            }
            case 16: case 17: besides(); break;
            default: look(rarely(3) ? 2 : any(-1, 13));
        }
        if (rarely(2)) look(10);
        if (rarely(3)) look(2);
    }

    private void besides() {
        int one = any(-1, y.kept.size() - (rarely(9) ? 0 : 1));
        int other = any(-1, y.kept.size() - (rarely(9) ? 0 : 1));
        if (rarely(3)) {
            due("parts(" + one + ", " + other + ")", x.parts(one, other), y.parts(one, other));
            return;
        }
        int n = x.align(one, other);
        due("align(" + one + ", " + other + ")", n, y.align(one, other));
        int i = any(rarely(9) ? -1 : 0, Math.max(0, n)), w = what(3);
        due("pair(" + one + ", " + other + ", " + i + ", " + w + ")",
            x.pair(one, other, i, w), y.pair(one, other, i, w));
    }
}
