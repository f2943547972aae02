import java.io.File;
import java.lang.reflect.Method;
import java.lang.reflect.Modifier;
import java.nio.file.Files;
import java.nio.file.Path;
import java.util.Set;
import java.util.TreeSet;
import java.util.regex.Matcher;
import java.util.regex.Pattern;

/** README.md tells the truth: its calls answer what stands behind them, and no call and no test is left out. */
public final class ReadmeTest {
    private static final Pattern CALL = Pattern.compile("drive\\.(\\w+)\\((.*)\\); +// (-?\\d+|[A-Z]+):.*");
    private static final String NEW_OBJECT = "BeetleDrive drive = new BeetleDrive();";
    private static final int CALLS = 512;
    private static int wrong = 0;

    private static void check(String what, boolean holds) {
        if (!holds) {
            wrong++;
            System.out.println("README.md: " + what);
        }
    }

    public static void main(String[] args) throws Exception {
        String text = Files.readString(Path.of("README.md"));
        int from = text.indexOf("```java\n");
        int to = text.indexOf("```\n", from + 1);
        if (from < 0 || to < 0) {
            System.out.println("README.md: there is no example");
            System.exit(1);
        }
        example(text.substring(from + "```java\n".length(), to));
        testsAreNamed(text);
        System.out.println(wrong == 0 ? "the README is true" : wrong + " things are not as told");
        if (wrong != 0) {
            System.exit(1);
        }
    }

    private static void example(String lines) throws Exception {
        BeetleDrive drive = null;
        Set<String> used = new TreeSet<>();
        int calls = 0;
        for (String line : lines.split("\n")) {
            Matcher call = CALL.matcher(line);
            if (line.equals(NEW_OBJECT)) {
                drive = new BeetleDrive();
                calls = 0;
            } else if (call.matches()) {
                calls++;
                used.add(call.group(1));
                long got = answer(drive, call.group(1), call.group(2));
                check(line + " (it answered " + got + ")", got == number(call.group(3)));
            } else {
                check("not understood: " + line, line.isEmpty() || line.startsWith("// "));
            }
        }
        check(calls + " calls of one object", calls <= CALLS);
        for (Method m : BeetleDrive.class.getDeclaredMethods()) {
            check("no example of " + m.getName(), !Modifier.isPublic(m.getModifiers()) || used.contains(m.getName()));
        }
    }

    private static long answer(BeetleDrive drive, String name, String arguments) throws Exception {
        String[] parts = arguments.isEmpty() ? new String[0] : arguments.split(", ");
        Object[] values = new Object[parts.length];
        Class<?>[] types = new Class<?>[parts.length];
        for (int i = 0; i < parts.length; i++) {
            values[i] = parts[i].startsWith("'") ? parts[i].charAt(1) : Integer.parseInt(parts[i]);
            types[i] = int.class;
        }
        return ((Number) BeetleDrive.class.getMethod(name, types).invoke(drive, values)).longValue();
    }

    private static long number(String told) throws Exception {
        boolean isName = Character.isLetter(told.charAt(0));
        return isName ? BeetleDrive.class.getField(told).getLong(null) : Long.parseLong(told);
    }

    private static void testsAreNamed(String text) {
        String[] files = new File("src/test/java").list();
        check("there are no tests", files != null && files.length > 0);
        for (String file : files == null ? new String[0] : files) {
            String name = file.replace(".java", "");
            check("it does not tell of " + name, text.contains("- `" + name + "`: "));
        }
        check("it does not say how the tests are run", text.contains("\n    .ci/run\n"));
    }
}
