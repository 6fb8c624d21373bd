import java.lang.management.ManagementFactory;
import java.lang.reflect.Array;
import java.lang.reflect.Field;
import java.lang.reflect.Modifier;
import java.nio.file.Files;
import java.nio.file.Path;
import java.util.ArrayDeque;
import java.util.Collections;
import java.util.IdentityHashMap;
import java.util.Set;

/**
 * Rule 12: what a run of calls makes is small. All rows are made with the object and used again;
 * no call makes any, begin() and keep() neither.
 */
public final class RoomTest {
    private static final int OBJECTS_MOST = 400;
    private static final int ELEMENTS_MOST = 300_000;
    /** For the measuring itself; one row of a run alone would be more. */
    private static final int BYTES_MOST = 2_000;
    private static int wrong = 0;

    private static void say(boolean good, String what) {
        if (!good) {
            wrong++;
            System.out.println(what);
        }
    }

    public static void main(String[] args) throws Exception {
        newObjectIsSmall();
        callsKeepTheSameObjects();
        callsMakeNothing();
        sourceMakesInConstructorsAlone();
        System.out.println(wrong == 0 ? "the room is as due" : wrong + " things are not as due");
        if (wrong != 0) System.exit(1);
    }

    private static Set<Object> reached(Object from) throws Exception {
        Set<Object> seen = Collections.newSetFromMap(new IdentityHashMap<>());
        ArrayDeque<Object> open = new ArrayDeque<>();
        seen.add(from);
        open.add(from);
        while (!open.isEmpty()) {
            Object o = open.remove();
            if (o instanceof Object[]) {
                for (Object e : (Object[]) o) if (e != null && seen.add(e)) open.add(e);
            } else if (!o.getClass().isArray()) {
                for (Field f : o.getClass().getDeclaredFields()) {
                    if (Modifier.isStatic(f.getModifiers()) || f.getType().isPrimitive()) continue;
                    f.setAccessible(true);
                    Object e = f.get(o);
                    if (e != null && seen.add(e)) open.add(e);
                }
            }
        }
        return seen;
    }

    private static int elements(Set<Object> objects) {
        int all = 0;
        for (Object o : objects) {
            if (o.getClass().isArray()) {
                all += Array.getLength(o);
            } else {
                for (Field f : o.getClass().getDeclaredFields()) if (!Modifier.isStatic(f.getModifiers())) all++;
            }
        }
        return all;
    }

    private static void newObjectIsSmall() throws Exception {
        Set<Object> objects = reached(new RunsBack());
        say(objects.size() <= OBJECTS_MOST, "objects and arrays: " + objects.size());
        say(elements(objects) <= ELEMENTS_MOST, "fields and elements: " + elements(objects));
    }

    /** Nearly 512 calls, of every kind, refused ones too. */
    private static void manyCalls(RunsBack x) {
        int[][] rows = {{20, 0, 32, 0}, {14, 0, 0, 0}, {17, 6, 0, 0}, {20, 1, 32, 0}, {13, 2, 1, 0}, {15, 0, 0, 0},
            {10, 3, 0, 1}, {16, 3, 9, 0}, {18, 0, 0, 0}, {19, 4, 0, 0}, {21, 4, 0, 0}, {18, 0, 0, 0}};
        for (int i = 0; i < rows.length; i++) x.code(i, rows[i][0], rows[i][1], rows[i][2], rows[i][3]);
        x.spacing(3, 8);
        for (int n = 0; n < 8; n++) {
            x.begin();
            x.seed(n);
            x.give(n);
            x.poke(n, 2, n);
            x.poke(n, 3, n);
            x.run(400);
            x.watch(n, true);
            x.run(500);
            x.watch(n, false);
            x.back(x.look(0) / 2);
            x.give(7);
            x.run(500);
            x.keep();
            x.use(n % 5 - 1);
            for (int t = -1; t < 300; t += 60) {
                x.at(t, n, 1);
                x.state(t, 3);
                x.last(t, n);
                x.when(t, n, 2, 5);
                x.changed(t, 1);
                x.watched(t);
                x.rests(t, n, -1);
            }
        }
        x.hangs(0, 100, 0);
        x.history(0, -1, 0);
        x.done(100, 2);
        x.call(0, 0);
        x.log(0, 0);
        x.held(0, 0);
        x.would(8, 2, 3000);
        x.gap(8, 2, 3000);
        x.sparing(2, 3000, 9);
        x.align(0, 1);
        x.pair(0, 1, 0, 3);
        x.parts(0, -1);
    }

    private static void callsKeepTheSameObjects() throws Exception {
        RunsBack x = new RunsBack();
        Set<Object> ahead = reached(x);
        manyCalls(x);
        say(x.look(7) == 4, "not all are kept");
        Set<Object> behind = reached(x);
        say(behind.equals(ahead), "other objects than at first: " + ahead.size() + ", then " + behind.size());
    }

    private static void callsMakeNothing() {
        com.sun.management.ThreadMXBean threads =
            (com.sun.management.ThreadMXBean) ManagementFactory.getThreadMXBean();
        long id = Thread.currentThread().getId();
        long made = 0;
        for (int round = 0; round < 3; round++) {
            RunsBack x = new RunsBack();
            long ahead = threads.getThreadAllocatedBytes(id);
            manyCalls(x);
            made = threads.getThreadAllocatedBytes(id) - ahead;
        }
        // the program's rows in manyCalls are the test's own: 12 rows of 4, and the row of these
        say(made <= BYTES_MOST, "the calls made " + made + " bytes");
    }

    /** Each 'new' stands in a field's line or in the public constructor; nothing is cloned. */
    private static void sourceMakesInConstructorsAlone() throws Exception {
        String s = Files.readString(Path.of("src/main/java/RunsBack.java"));
        s = s.replaceAll("(?s)/\\*.*?\\*/", " ").replaceAll("//[^\n]*", " ");
        s = s.replaceAll("(?s)public RunsBack\\(\\) \\{.*?\n    \\}", "");
        for (String line : s.split("\n")) {
            String l = line.trim();
            say(!l.matches(".*\\bnew\\b.*") || l.matches("(private )?final [^(){}]* = new [^;]*;"), "makes: " + l);
            say(!l.matches(".*\\b(clone|copyOf|copyOfRange|StringBuilder|ArrayList)\\b.*"), "makes: " + l);
        }
    }
}
