import java.lang.reflect.Constructor;
import java.lang.reflect.Field;
import java.lang.reflect.Method;
import java.lang.reflect.Modifier;
import java.nio.file.Files;
import java.nio.file.Path;
import java.util.ArrayList;
import java.util.List;
import java.util.Set;
import java.util.TreeSet;
import java.util.regex.Matcher;
import java.util.regex.Pattern;

/** The public face, and the rules of LANGUAGE.md that can be seen from outside. */
public final class LanguageTest {
    private static final String[] FACE = {
        "int feed(int, int, int, int, int)", "int end(int)", "int tell()", "int add(int, int, int, int)",
        "int withdraw(int, int)", "int range(int, int, int, int)", "int strides(long)", "int gather()", "int undo()",
        "int keep(int)", "int back(int)", "int look(int, int)", "int path(int, int)", "int would(int, int, int, int)",
        "int within(int, int, int)", "long differs(int, int)", "int rule(int, int)", "long served(int)",
        "int hop(int, int)", "long reach(int)", "long node(int, int)", "int stored(int, int)", "int slot(int, int, int)",
        "int alike(int, int)", "int level(int, int)", "long span(int, int)", "long cover(int, int, int, int)",
        "long own(int, int, int)", "long best(int, int)", "long fewest(int, int)", "long steps()", "int count(int)"};
    private static final String[] FORBIDDEN = {"\\bimport\\b", "\\bpackage\\b", "->", "::", "\\bsynchronized\\b",
        "\\bassert\\b", "\\bcatch\\b", "\\bfinally\\b", "\\bthrow\\b", "Exact\\(", "\\bSystem\\.", "\\bDouble\\.",
        "\\bFloat\\.", "\\bdouble\\b", "\\bfloat\\b", "\\bvar\\b", "\\bprotected\\b", "static \\{"};
    private static int wrong;

    public static void main(String[] args) throws Exception {
        face();
        classes();
        source();
        System.out.println("LanguageTest: " + wrong + " rules are broken");
        if (wrong != 0) {
            System.exit(1);
        }
    }

    private static void must(boolean holds, String what) {
        if (!holds) {
            wrong++;
            System.out.println("broken: " + what);
        }
    }

    private static void face() throws Exception {
        Set<String> want = new TreeSet<>(List.of(FACE));
        Set<String> got = new TreeSet<>();
        Set<String> hidden = new TreeSet<>();
        for (Method m : RouteStrides.class.getDeclaredMethods()) {
            if (Modifier.isPrivate(m.getModifiers())) {
                hidden.add(m.getName());
                continue;
            }
            must(Modifier.isPublic(m.getModifiers()) && !Modifier.isStatic(m.getModifiers()), "public: " + m);
            List<String> types = new ArrayList<>();
            for (Class<?> type : m.getParameterTypes()) {
                types.add(type.getName());
            }
            got.add(m.getReturnType().getName() + " " + m.getName() + "(" + String.join(", ", types) + ")");
            must(m.getExceptionTypes().length == 0, "no exceptions: " + m);
        }
        must(want.equals(got), "the face is " + got);
        for (String call : FACE) {
            must(!hidden.contains(call.replaceAll("^\\w+ |\\(.*", "")), "a private method has the name of " + call);
        }
        must(Modifier.isFinal(RouteStrides.class.getModifiers()), "the class is final");
        for (Field f : RouteStrides.class.getDeclaredFields()) {
            must(Modifier.isPrivate(f.getModifiers()) || f.getName().equals("NONE"), "private: " + f);
            must(!Modifier.isStatic(f.getModifiers()) || Modifier.isFinal(f.getModifiers()), "final: " + f);
        }
        Constructor<?>[] made = RouteStrides.class.getDeclaredConstructors();
        must(made.length == 1 && Modifier.isPublic(made[0].getModifiers()), "one public constructor");
        must(RouteStrides.NONE == -1, "NONE is -1");
    }

    private static void classes() {
        Class<?>[] inside = RouteStrides.class.getDeclaredClasses();
        must(inside.length < 12, "at most twelve classes");
        for (Class<?> c : inside) {
            must(Modifier.isStatic(c.getModifiers()), "static: " + c);
            int fields = 0;
            for (Field f : c.getDeclaredFields()) {
                fields += Modifier.isStatic(f.getModifiers()) ? 0 : 1;
            }
            must(fields <= 20, "at most twenty fields: " + c);
            for (Method m : c.getDeclaredMethods()) {
                must(m.getParameterCount() <= 7, "at most seven parameters: " + m);
            }
        }
    }

    private static void source() throws Exception {
        String text = Files.readString(Path.of("src/main/java/RouteStrides.java"));
        String code = text.replaceAll("(?s)/\\*.*?\\*/", "").replaceAll("//[^\n]*", "");
        for (String pattern : FORBIDDEN) {
            Matcher m = Pattern.compile(pattern).matcher(code);
            must(!m.find(), "no " + pattern);
        }
        Matcher library = Pattern.compile("\\b(Math|Long|Integer|Arrays|String|ArrayList|List)\\.(\\w+)").matcher(code);
        while (library.find()) {
            must(Set.of("min", "max", "bitCount").contains(library.group(2)), "library: " + library.group());
        }
        must(text.chars().allMatch(c -> c == '\n' || c >= 32 && c < 127), "plain signs");
        int open = -1;
        String[] lines = text.split("\n");
        for (int i = 0; i < lines.length; i++) {
            if (lines[i].matches(" +[\\w\\[\\] ]+\\(.*\\) \\{") && !lines[i].matches(" +(for|if|while|switch|else) ?\\(.*")) {
                open = i;
            }
            if (open >= 0 && lines[i].isEmpty()) {
                must(i - open <= 60, "at most sixty lines: " + lines[open]);
                open = -1;
            }
        }
    }
}
