import java.lang.reflect.Field;
import java.lang.reflect.Method;
import java.lang.reflect.Modifier;
import java.nio.file.Files;
import java.nio.file.Path;
import java.util.Arrays;
import java.util.Set;
import java.util.TreeSet;
import java.util.regex.Matcher;
import java.util.regex.Pattern;

/** The face is the document's and no more; the source keeps to the rules that can be looked up in it. */
public final class FaceTest {
    private static final String[] METHODS = {
        "int player(int,int,int)", "int die(int)", "int say(int)", "int wipe()", "int fault()", "int judge(int)",
        "int behind(int,int)", "int table(int)", "int first(int)", "int done()", "int orders(int,int)",
        "long whole(int,int,int)", "long sums(int,int)", "int roll(int,int)", "int shown(int,int)", "int forget()",
        "int lies(int)", "int ask(int)", "int turn(int,int,int)", "int year(int,int,int)", "int image(int)",
        "int restore(int)", "int told(int)"};
    private static final String[] CONSTANTS = {"UNKNOWN", "OUTSIDE", "STATE", "FULL", "NO", "NONE", "GONE"};
    private static final String[] FORBIDDEN = {"throw", "try", "catch", "finally", "synchronized", "assert", "package",
        "import", "hashCode", "toString", "Exact", "System", "Thread", "Random", "->", "::", "new Object", "yield"};
    private static int wrong = 0;

    private static void check(String what, boolean holds) {
        if (!holds) {
            wrong++;
            System.out.println("not so: " + what);
        }
    }

    public static void main(String[] args) throws Exception {
        face();
        nested();
        source();
        System.out.println(wrong == 0 ? "the face is as told" : wrong + " things are not as told");
        if (wrong != 0) {
            System.exit(1);
        }
    }

    private static String signature(Method m) {
        StringBuilder text = new StringBuilder(m.getReturnType().getName()).append(' ').append(m.getName()).append('(');
        Class<?>[] types = m.getParameterTypes();
        for (int i = 0; i < types.length; i++) {
            text.append(i == 0 ? "" : ",").append(types[i].getName());
        }
        return text.append(')').toString();
    }

    private static void face() throws Exception {
        Class<?> c = BeetleDrive.class;
        check("public final", Modifier.isPublic(c.getModifiers()) && Modifier.isFinal(c.getModifiers()));
        check("one constructor", c.getDeclaredConstructors().length == 1 && c.getConstructors().length == 1);
        Set<String> found = new TreeSet<>();
        Set<String> names = new TreeSet<>();
        for (Method m : c.getDeclaredMethods()) {
            if (!Modifier.isPrivate(m.getModifiers())) {
                check(m + " is public and of the object",
                    Modifier.isPublic(m.getModifiers()) && !Modifier.isStatic(m.getModifiers()));
                found.add(signature(m));
                names.add(m.getName());
            }
        }
        check("the methods " + found, found.equals(new TreeSet<>(Arrays.asList(METHODS))));
        for (Method m : c.getDeclaredMethods()) {
            check("no private " + m.getName(), !Modifier.isPrivate(m.getModifiers()) || !names.contains(m.getName()));
        }
        Set<String> constants = new TreeSet<>();
        for (Field f : c.getDeclaredFields()) {
            if (!Modifier.isPrivate(f.getModifiers())) {
                check(f + " is a constant", f.getModifiers() == (Modifier.PUBLIC | Modifier.STATIC | Modifier.FINAL));
                check(f + " has its type", f.getType() == (f.getName().equals("GONE") ? long.class : int.class));
                constants.add(f.getName());
            }
        }
        check("the constants " + constants, constants.equals(new TreeSet<>(Arrays.asList(CONSTANTS))));
    }

    private static void nested() {
        Class<?>[] inside = BeetleDrive.class.getDeclaredClasses();
        check("at most some twelve classes", inside.length <= 12);
        for (Class<?> c : inside) {
            check(c + " is static", Modifier.isStatic(c.getModifiers()));
            check(c + " is not public", !Modifier.isPublic(c.getModifiers()));
            int own = 0;
            for (Field f : c.getDeclaredFields()) {
                boolean isStatic = Modifier.isStatic(f.getModifiers());
                check(f + " is final if static", !isStatic || Modifier.isFinal(f.getModifiers()));
                own += isStatic ? 0 : 1;
            }
            check(c + " has some twenty fields at most", own <= 20);
            for (Method m : c.getDeclaredMethods()) {
                check(m + " takes at most seven", m.getParameterCount() <= 7);
                for (String told : METHODS) {
                    check(m + " is named like none of the face", !told.contains(" " + m.getName() + "("));
                }
            }
        }
    }

    private static void source() throws Exception {
        String text = Files.readString(Path.of("src/main/java/BeetleDrive.java"));
        for (int i = 0; i < text.length(); i++) {
            check("plain signs at " + i, text.charAt(i) < 127);
        }
        String code = text.replaceAll("(?s)/\\*.*?\\*/", "").replaceAll("//[^\n]*", "");
        for (String word : FORBIDDEN) {
            boolean isWord = Character.isLetter(word.charAt(0));
            Matcher m = Pattern.compile(isWord ? "\\b" + word + "\\b" : Pattern.quote(word)).matcher(code);
            check("no " + word, !m.find());
        }
        check("no name that ends in Exact", !code.contains("Exact("));
        check("no text joined", !code.contains("\""));
        rowsAreMadeOnce(code);
        methodsAreShort(code);
    }

    /** Rule 12 and the one room of all calls: whatever is made is a field, so no call makes anything. */
    private static void rowsAreMadeOnce(String code) {
        for (String line : code.split("\n")) {
            boolean isField = line.matches(" +private final [\\w\\[\\]]+ \\w+ = new [^;]+;");
            check("made in a call: " + line.trim(), !line.matches(".*\\bnew\\b.*") || isField);
        }
    }

    /** Rule 11: a method ends where its own indent comes back with a brace. */
    private static void methodsAreShort(String code) {
        Matcher m = Pattern.compile("(?ms)^( {4}| {8})(?! )[^;={}\\n]*\\([^;={}\\n]*\\) \\{\\n(.*?)^\\1\\}").matcher(code);
        int found = 0;
        while (m.find()) {
            found++;
            long lines = m.group(2).lines().count();
            check(lines + " lines in " + m.group().lines().findFirst().orElse("").trim(), lines <= 60);
        }
        check("methods were found in the source: " + found, found >= METHODS.length);
    }
}
