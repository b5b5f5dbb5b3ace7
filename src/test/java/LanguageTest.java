import java.io.IOException;
import java.lang.reflect.Constructor;
import java.lang.reflect.Field;
import java.lang.reflect.Method;
import java.lang.reflect.Modifier;
import java.nio.file.Files;
import java.nio.file.Path;
import java.util.Arrays;
import java.util.List;
import java.util.Set;
import java.util.TreeSet;
import java.util.regex.Matcher;
import java.util.regex.Pattern;

/** The public face, and those rules of the language that can be seen in the class or in its source. */
public final class LanguageTest {
    private static final Path SOURCE = Path.of("src/main/java/WayLeaves.java");
    private static final String FACE = """
        int pass(int); int sell(int,int,int); int owner(int,int); int heir(int,int,int); int set(int,int,int);
        int trees(int,int,int); int high(int); int tower(int,int); int span(int,int,int,int); int heat(int,int);
        long spanTold(int,int); int leave(int,int,int,int,int); int leaveTold(int,int); int renew(int);
        int appeal(int); int undo(int,int); int has(int,int); long yearly(int,int); int feed(int,long); int text();
        int force(int); long says(int,int); int claim(int,int,int); int doubled(); long due(int);
        int look(int,int,int); int bounds(int,int); int hold(int,int); int way(int,int,int);
        int couldAsk(int,int,int); int asking(int,int); int toAsk(int,int); int count(int); int sheet(int,int,int);
        int cell(int,int,int); int copy(int,int,int,int,int); int costs(int,int,int,int,int); int taken(int,int)""";
    private static final String[] FORBIDDEN = {
        "\\b(throws?|try|catch|synchronized|assert|Object|protected|double|float|volatile|native)\\b", "->", "::",
        "System\\.(?!arraycopy)", "(Integer|Long)\\.[A-Z]", "Exact\\b", "\\.values\\(", "hashCode", "toString", "getClass",
        "import (?!java\\.util\\.(Arrays|ArrayList|List);)"};
    private static int wrong = 0;

    private static void check(boolean good, String what) {
        if (good) return;
        wrong++;
        System.out.println(what);
    }

    private static void theFace() {
        Set<String> want = new TreeSet<>(Arrays.asList(FACE.split(";\\s+")));
        Set<String> got = new TreeSet<>();
        Set<String> publicNames = new TreeSet<>();
        for (Method m : WayLeaves.class.getDeclaredMethods()) {
            if (Modifier.isPrivate(m.getModifiers())) continue;
            String types = String.join(",", Arrays.stream(m.getParameterTypes()).map(Class::getName).toList());
            got.add(m.getReturnType().getName() + " " + m.getName() + "(" + types + ")");
            publicNames.add(m.getName());
            check(Modifier.isPublic(m.getModifiers()) && !Modifier.isStatic(m.getModifiers()), m + " is not of the face");
        }
        check(want.equals(got), "the face is " + got);
        for (Class<?> c : allClasses()) {
            for (Method m : c.getDeclaredMethods()) {
                boolean own = c == WayLeaves.class && Modifier.isPublic(m.getModifiers());
                check(own || !publicNames.contains(m.getName()), m + " bears the name of a public method");
                check(m.getParameterCount() <= 7, m + " has too many parameters");
            }
        }
    }

    private static List<Class<?>> allClasses() {
        List<Class<?>> all = new java.util.ArrayList<>(List.of(WayLeaves.class));
        all.addAll(Arrays.asList(WayLeaves.class.getDeclaredClasses()));
        return all;
    }

    private static void theConstants() {
        Set<String> got = new TreeSet<>();
        for (Field f : WayLeaves.class.getDeclaredFields()) {
            if (!Modifier.isPrivate(f.getModifiers())) got.add(Modifier.toString(f.getModifiers()) + " " + f.getType() + " " + f.getName());
        }
        Set<String> want = new TreeSet<>();
        for (String name : List.of("int NONE", "int BAD", "int STATE", "int FULL", "long NO")) want.add("public static final " + name);
        check(want.equals(got), "the constants are " + got);
        check(WayLeaves.NONE == -1 && WayLeaves.BAD == -2 && WayLeaves.STATE == -3 && WayLeaves.FULL == -4, "constants");
        check(WayLeaves.NO == -4611686018427387904L, "NO");
    }

    private static void theClasses() {
        Constructor<?>[] made = WayLeaves.class.getDeclaredConstructors();
        check(made.length == 1 && Modifier.isPublic(made[0].getModifiers()) && made[0].getParameterCount() == 0, "constructor");
        check(Modifier.isFinal(WayLeaves.class.getModifiers()), "the class is not final");
        check(allClasses().size() <= 12, "too many classes");
        for (Class<?> c : allClasses()) {
            check(c == WayLeaves.class || Modifier.isStatic(c.getModifiers()), c + " is not static");
            long fields = Arrays.stream(c.getDeclaredFields()).filter(f -> !Modifier.isStatic(f.getModifiers())).count();
            check(fields <= 20, c + " has " + fields + " fields");
            for (Field f : c.getDeclaredFields()) {
                check(!Modifier.isStatic(f.getModifiers()) || Modifier.isFinal(f.getModifiers()), f + " is not final");
            }
        }
    }

    private static void theSource() throws IOException {
        String all = Files.readString(SOURCE);
        check(all.chars().allMatch(c -> c < 128), "a sign above 127");
        String code = all.replaceAll("(?s)/\\*.*?\\*/", "").replaceAll("//[^\n]*", "");
        for (String word : FORBIDDEN) {
            Matcher m = Pattern.compile(word).matcher(code);
            check(!m.find(), "the source has " + word);
        }
        for (String line : code.split("\n")) {
            boolean once = line.matches(" {8}(final .* = new .*|[a-z]+ = new [A-Z][a-z]+\\(.*\\);)");
            check(!line.contains("new ") || once, "made in a call: " + line);
        }
        int begin = 0;
        String[] lines = all.split("\n");
        for (int i = 0; i < lines.length; i++) {
            if (lines[i].matches(" {4,8}[a-zA-Z].*\\) \\{")) begin = i;
            if (lines[i].matches(" {4,8}\\}")) check(i - begin <= 60 || lines[i].startsWith("    }"), "long method at " + i);
        }
    }

    public static void main(String[] args) throws IOException {
        theFace();
        theConstants();
        theClasses();
        theSource();
        System.out.println(wrong == 0 ? "the language is kept to" : wrong + " rules are not kept to");
        if (wrong != 0) System.exit(1);
    }
}
