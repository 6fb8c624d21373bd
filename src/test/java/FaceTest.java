import java.lang.reflect.Constructor;
import java.lang.reflect.Field;
import java.lang.reflect.Method;
import java.lang.reflect.Modifier;
import java.nio.file.Files;
import java.nio.file.Path;
import java.util.TreeSet;
import java.util.regex.Matcher;
import java.util.regex.Pattern;

/** The face is the document's and no more; the source keeps to what LANGUAGE.md can be read for. */
public final class FaceTest {
    private static final String[] FACE = {"align(int,int):int", "at(int,int,int):int", "back(int):int", "begin():int",
        "call(int,int):int", "changed(int,int):int", "code(int,int,int,int,int):boolean", "done(int,int):int",
        "gap(int,int,int):int", "give(int):int", "hangs(int,int,int):int", "held(int,int):int",
        "history(int,int,int):int", "keep():int", "last(int,int):int", "log(int,int):int", "look(int):int",
        "pair(int,int,int,int):int", "parts(int,int):int", "poke(int,int,int):int", "rests(int,int,int):int",
        "run(int):int", "seed(int):int", "spacing(int,int):boolean", "sparing(int,int,int):int",
        "state(int,int):int", "use(int):boolean", "watch(int,boolean):boolean", "watched(int):int",
        "when(int,int,int,int):int", "would(int,int,int):int"};
    private static int wrong = 0;

    private static void say(boolean good, String what) {
        if (!good) {
            wrong++;
            System.out.println(what);
        }
    }

    public static void main(String[] args) throws Exception {
        face();
        noNameTwice();
        source();
        System.out.println(wrong == 0 ? "the face is as due" : wrong + " things are not as due");
        if (wrong != 0) System.exit(1);
    }

    private static void face() {
        Class<?> c = RunsBack.class;
        say(Modifier.isPublic(c.getModifiers()) && Modifier.isFinal(c.getModifiers()), "not public and final");
        TreeSet<String> seen = new TreeSet<>();
        for (Method m : c.getDeclaredMethods()) {
            if (Modifier.isPrivate(m.getModifiers())) continue;
            say(Modifier.isPublic(m.getModifiers()) && !Modifier.isStatic(m.getModifiers()), "not public: " + m);
            StringBuilder s = new StringBuilder(m.getName()).append('(');
            String comma = "";
            for (Class<?> p : m.getParameterTypes()) {
                s.append(comma).append(p.getName());
                comma = ",";
            }
            seen.add(s.append("):").append(m.getReturnType().getName()).toString());
        }
        say(seen.equals(new TreeSet<>(java.util.List.of(FACE))), "another face: " + seen);
        for (Field f : c.getDeclaredFields()) {
            boolean none = f.getName().equals("NONE") && Modifier.isPublic(f.getModifiers())
                && Modifier.isStatic(f.getModifiers()) && Modifier.isFinal(f.getModifiers());
            say(none || Modifier.isPrivate(f.getModifiers()), "a field that is seen: " + f);
            say(!Modifier.isStatic(f.getModifiers()) || Modifier.isFinal(f.getModifiers()), "static, not final: " + f);
        }
        Constructor<?>[] makers = c.getDeclaredConstructors();
        say(makers.length == 1 && Modifier.isPublic(makers[0].getModifiers())
            && makers[0].getParameterCount() == 0, "another constructor");
    }

    private static void noNameTwice() {
        TreeSet<String> names = new TreeSet<>();
        for (String f : FACE) names.add(f.substring(0, f.indexOf('(')));
        Class<?>[] inside = RunsBack.class.getDeclaredClasses();
        say(inside.length < 12, "too many classes");
        for (Method m : RunsBack.class.getDeclaredMethods()) {
            if (Modifier.isPrivate(m.getModifiers())) say(!names.contains(m.getName()), "named twice: " + m);
        }
        for (Class<?> c : inside) {
            say(Modifier.isStatic(c.getModifiers()), "not static: " + c);
            int fields = 0;
            for (Field f : c.getDeclaredFields()) if (!Modifier.isStatic(f.getModifiers())) fields++;
            say(fields <= 20, "too many fields: " + c);
            for (Method m : c.getDeclaredMethods()) {
                say(!names.contains(m.getName()), "named twice: " + m);
                say(m.getParameterCount() <= 7, "too many parameters: " + m);
            }
        }
    }

    private static void source() throws Exception {
        String s = Files.readString(Path.of("src/main/java/RunsBack.java"));
        s = s.replaceAll("(?s)/\\*.*?\\*/", " ").replaceAll("//[^\n]*", " ");
        String[] words = {"throw", "throws", "try", "catch", "finally", "synchronized", "assert", "package", "native",
            "Exception", "Error", "Object", "protected", "volatile", "instanceof", "Random", "Thread", "Scanner"};
        for (String w : words) say(!s.matches("(?s).*\\b" + w + "\\b.*"), "the word " + w);
        say(!s.contains("->") && !s.contains("::"), "a lambda or a reference to a method");
        say(!s.replace("System.arraycopy(", "").contains("System"), "System beside arraycopy");
        for (String line : s.split("\n")) {
            if (line.trim().startsWith("import")) {
                say(line.trim().equals("import java.util.Arrays;"), "import: " + line);
            }
        }
        say(s.chars().allMatch(c -> c < 128), "a sign above 127");
        library(s);
        lengths(s);
    }

    /** Rule 4: of the library only what it lists, and Arrays.fill over numbers alone. */
    private static void library(String s) {
        java.util.Set<String> listed = java.util.Set.of("Math.max", "Math.min", "System.arraycopy", "Arrays.fill");
        Matcher m = Pattern.compile("\\b([A-Z]\\w*)\\.(\\w+)\\(").matcher(s);
        while (m.find()) {
            String name = m.group(1) + "." + m.group(2);
            say(listed.contains(name) || s.contains(" class " + m.group(1) + " {"), "not in the library: " + name);
        }
        Matcher fill = Pattern.compile("Arrays\\.fill\\((\\w+)").matcher(s);
        while (fill.find()) {
            String row = fill.group(1);
            say(s.matches("(?s).*\\bint(\\[\\])+ " + row + "\\b.*") && !s.contains("boolean[] " + row),
                "filled, but no row of numbers: " + row);
        }
    }

    /** Rule 11: a method stays short. */
    private static void lengths(String s) {
        Matcher m = Pattern.compile("(?m)^( +)[^\\n;=]*\\b(\\w+)\\([^;]*\\) \\{\\n(?s:(.*?))^\\1\\}$").matcher(s);
        int methods = 0;
        while (m.find()) {
            int lines = m.group().split("\n").length;
            say(lines <= 60, "a long method: " + m.group(2) + ", " + lines + " lines");
            methods++;
        }
        say(methods > 100, "methods were not found: " + methods);
    }
}
