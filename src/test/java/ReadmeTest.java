import java.lang.reflect.Method;
import java.nio.file.Files;
import java.nio.file.Path;
import java.util.TreeSet;
import java.util.regex.Matcher;
import java.util.regex.Pattern;

/** The example of README.md answers what stands behind each of its calls; every call is named there. */
public final class ReadmeTest {
    private static final Pattern CALL = Pattern.compile("x\\.(\\w+)\\(([^)]*)\\); *// (\\S+?)(:.*)?");
    private static int wrong = 0;

    private static void say(boolean good, String what) {
        if (!good) {
            wrong++;
            System.out.println(what);
        }
    }

    public static void main(String[] args) throws Exception {
        String readme = Files.readString(Path.of("README.md"));
        example(readme);
        namesOfCalls(readme);
        System.out.println(wrong == 0 ? "README.md is as due" : wrong + " things are not as due");
        if (wrong != 0) System.exit(1);
    }

    private static void example(String readme) throws Exception {
        int from = readme.indexOf("```java\n");
        int to = readme.indexOf("```\n", from + 1);
        say(from >= 0 && to > from, "no example");
        if (from < 0 || to <= from) return;
        RunsBack x = new RunsBack();
        int calls = 0;
        for (String line : readme.substring(from + 8, to).split("\n")) {
            if (!line.startsWith("x.")) {
                say(line.isEmpty() || line.startsWith("//") || line.equals("RunsBack x = new RunsBack();"),
                    "neither a call nor a comment: " + line);
                continue;
            }
            Matcher m = CALL.matcher(line);
            say(m.matches(), "no answer stands behind: " + line);
            if (!m.matches()) continue;
            String got = String.valueOf(answer(x, m.group(1), m.group(2)));
            say(got.equals(m.group(3)), line + " .. answered " + got);
            calls++;
        }
        say(calls > 20, "only " + calls + " calls");
    }

    private static Object answer(RunsBack x, String name, String numbers) throws Exception {
        for (Method m : RunsBack.class.getMethods()) {
            if (!m.getName().equals(name)) continue;
            String[] parts = numbers.isEmpty() ? new String[0] : numbers.split(", *");
            Object[] all = new Object[parts.length];
            for (int i = 0; i < all.length; i++) {
                boolean flag = m.getParameterTypes()[i] == boolean.class;
                all[i] = flag ? (Object) Boolean.valueOf(parts[i]) : (Object) Integer.valueOf(parts[i]);
            }
            return m.invoke(x, all);
        }
        return "no such call";
    }

    private static void namesOfCalls(String readme) {
        TreeSet<String> missing = new TreeSet<>();
        for (Method m : RunsBack.class.getDeclaredMethods()) {
            boolean open = java.lang.reflect.Modifier.isPublic(m.getModifiers());
            if (open && !readme.contains("`" + m.getName() + "`")) missing.add(m.getName());
        }
        say(missing.isEmpty(), "not named: " + missing);
    }
}
