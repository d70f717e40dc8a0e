import java.io.IOException;
import java.lang.reflect.Constructor;
import java.lang.reflect.Field;
import java.lang.reflect.Method;
import java.lang.reflect.Modifier;
import java.nio.file.Files;
import java.nio.file.Path;
import java.util.Arrays;
import java.util.List;
import java.util.Set;
import java.util.TreeSet;
import java.util.regex.Matcher;
import java.util.regex.Pattern;

/** The face is the document's and no more; the file keeps to what of LANGUAGE.md can be seen without a compiler. */
public final class FaceTest {
    private static final String FACE = "int feed(long, long, long); int queue(); int work(); int item(int, int);"
        + " int heap(int, int); int tree(int, int, int); int listed(int, int, int); int shelf(int);"
        + " boolean put(int, int); int take(int); boolean meld(int, int); int shelve(int, int); boolean undo();"
        + " int judged(int); int first(int); int comes(int, int) NoSuchElementException;"
        + " int away(int, int) NoSuchElementException; int wrongs(int); int far(int); int select(int, int);"
        + " int split(int, int); int steps(int, int); int worth(int); int mean(int); int bits(int); int thousand(int);"
        + " int lift(int); boolean bound(int); int depth(int); boolean see(int, int, boolean); int who(); int ask();"
        + " int days(int, int, int); boolean mark(int, boolean); int count(int)";
    private static final List<String> IMPORTED = List.of("java.util.NoSuchElementException", "java.util.ArrayList",
        "java.util.List", "java.util.Arrays", "java.util.Iterator");
    private static final List<String> FORBIDDEN = List.of("finally", "synchronized", "assert", "Object", "Thread", "Random",
        "Runtime", "Float", "Double", "Character", "Boolean", "Throwable", "Exception", "Error", "getMessage", "hashCode",
        "getClass", "identityHashCode", "volatile", "native", "NullPointerException", "ClassCastException",
        "ArrayIndexOutOfBoundsException", "NegativeArraySizeException", "ArrayStoreException");
    private static final Path SOURCE = Path.of("src/main/java/RaisedQueue.java");
    private static final int LONGEST_METHOD = 60;
    private static final int MOST_CLASSES = 12;
    private static final int MOST_FIELDS = 20;
    private static final int MOST_PARAMETERS = 7;

    private FaceTest() {
    }

    public static void main(String[] args) throws IOException {
        face();
        classes();
        source(Files.readString(SOURCE));
        Check.end("FaceTest");
    }

    private static void face() {
        Class<RaisedQueue> c = RaisedQueue.class;
        Check.same("public and final", Modifier.isPublic(c.getModifiers()) && Modifier.isFinal(c.getModifiers()), true);
        Set<String> due = new TreeSet<>(Arrays.asList(FACE.split("; ?")));
        Set<String> got = new TreeSet<>();
        for (Method m : c.getDeclaredMethods()) {
            if (m.isSynthetic()) {
                continue;
            }
            if (Modifier.isPublic(m.getModifiers())) {
                String arguments = Arrays.toString(m.getParameterTypes()).replace('[', '(').replace(']', ')');
                String thrown = m.getExceptionTypes().length == 0 ? "" : " " + m.getExceptionTypes()[0].getSimpleName();
                got.add(m.getReturnType() + " " + m.getName() + arguments + thrown);
            } else {
                Check.same(m.getName() + " is private", Modifier.isPrivate(m.getModifiers()), true);
            }
        }
        Check.same("the methods", got.toString(), due.toString());
        for (Field f : c.getDeclaredFields()) {
            boolean told = f.getName().equals("NONE");
            Check.same(f.getName() + " is as it may be", told ? Modifier.isPublic(f.getModifiers())
                : Modifier.isPrivate(f.getModifiers()), true);
        }
        Constructor<?>[] made = c.getDeclaredConstructors();
        Check.same("one constructor", made.length, 1);
        Check.same("it is public", Modifier.isPublic(made[0].getModifiers()), true);
        Check.same("it takes nothing", made[0].getParameterCount(), 0);
    }

    private static void classes() {
        Set<String> names = new TreeSet<>();
        for (Method m : RaisedQueue.class.getDeclaredMethods()) {
            if (Modifier.isPublic(m.getModifiers())) {
                names.add(m.getName());
            }
        }
        Class<?>[] inside = RaisedQueue.class.getDeclaredClasses();
        Check.same("few classes", inside.length + 1 <= MOST_CLASSES, true);
        for (Class<?> c : inside) {
            Check.same(c + " is private and static", Modifier.isPrivate(c.getModifiers())
                && Modifier.isStatic(c.getModifiers()), true);
            for (Method m : c.getDeclaredMethods()) {
                Check.same(c + "." + m.getName() + " has a name of its own", names.contains(m.getName()), false);
            }
            members(c);
        }
        members(RaisedQueue.class);
    }

    private static void members(Class<?> c) {
        int fields = 0;
        for (Field f : c.getDeclaredFields()) {
            boolean isStatic = Modifier.isStatic(f.getModifiers());
            fields += isStatic ? 0 : 1;
            Check.same(c + "." + f.getName() + ": static fields are final",
                !isStatic || Modifier.isFinal(f.getModifiers()), true);
        }
        Check.same(c + " has few fields", fields <= MOST_FIELDS, true);
        for (Method m : c.getDeclaredMethods()) {
            Check.same(c + "." + m.getName() + " takes few", m.getParameterCount() <= MOST_PARAMETERS, true);
        }
    }

    private static void source(String text) {
        String bare = Pattern.compile("/\\*.*?\\*/|//[^\n]*|\"[^\"\n]*\"|'[^']*'", Pattern.DOTALL).matcher(text)
            .replaceAll(m -> m.group().startsWith("\"") ? "\"\"" : m.group().startsWith("'") ? "' '" : "");
        for (String sign : new String[] {"->", "::"}) {
            Check.same("no " + sign, bare.contains(sign), false);
        }
        for (String word : FORBIDDEN) {
            Check.same("no " + word, Pattern.compile("\\b" + word + "\\b").matcher(bare).find(), false);
        }
        Check.same("of System only arraycopy", Pattern.compile("\\bSystem\\b(?!\\.arraycopy\\()").matcher(bare).find(), false);
        Check.same("of Math nothing exact", Pattern.compile("\\bMath\\.\\w+Exact\\(").matcher(bare).find(), false);
        Check.same("nothing is caught that the machine may throw", Pattern.compile("\\bcatch\\s*\\([^)]*"
            + "\\b(RuntimeException|IndexOutOfBoundsException|ArithmeticException)\\b").matcher(bare).find(), false);
        Check.same("signs are 10, 32 to 126", text.chars().allMatch(s -> s == 10 || s >= 32 && s <= 126), true);
        Matcher imports = Pattern.compile("import ([^;]*);").matcher(bare);
        while (imports.find()) {
            Check.same(imports.group(), IMPORTED.contains(imports.group(1)), true);
        }
        Check.same("no package", Pattern.compile("(?m)^package").matcher(bare).find(), false);
        // an element of an array is reached in few places, each behind a look at its index on the same lines
        Check.same("every array is looked at ahead", looked(bare), true);
        methods(text.split("\n"));
    }

    private static boolean looked(String bare) {
        String[] lines = bare.split("\n");
        for (int i = 0; i < lines.length; i++) {
            if (Pattern.compile("\\w\\[(?!\\])[^\\]]+\\]").matcher(lines[i]).find() && !lines[i].contains("new ")) {
                String around = String.join(" ", Arrays.copyOfRange(lines, Math.max(0, i - 3), i + 1));
                if (!around.contains(".length")) {
                    System.out.println("unlooked at: " + lines[i].trim());
                    return false;
                }
            }
        }
        return true;
    }

    private static void methods(String[] lines) {
        int start = -1;
        for (int i = 0; i < lines.length; i++) {
            boolean heads = lines[i].matches(" {4,8}[a-zA-Z].*\\(.*\\{") && !lines[i].contains(" class ");
            if (heads) {
                start = i;
            }
            if (start >= 0 && lines[i].matches(" {4,8}\\}")) {
                Check.same(lines[start].trim() + " is short", i - start < LONGEST_METHOD, true);
                start = -1;
            }
        }
    }
}
