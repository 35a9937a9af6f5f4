import java.lang.reflect.Constructor;
import java.lang.reflect.Field;
import java.lang.reflect.Method;
import java.lang.reflect.Modifier;
import java.nio.charset.StandardCharsets;
import java.nio.file.Files;
import java.nio.file.Path;
import java.util.Map;
import java.util.Set;
import java.util.TreeMap;
import java.util.TreeSet;

/** The public face, and those rules of the language that can be looked up without a judgement. */
public final class FaceTest {
    private static final Checks c = new Checks("FaceTest");

    public static void main(String[] args) throws Exception {
        methods();
        constants();
        constructors();
        insides();
        source(Files.readString(Path.of("src/main/java/TrailSearch.java"), StandardCharsets.ISO_8859_1));
        c.end();
    }

    private static void holds(String what, boolean holds) {
        c.due(what, holds ? 1 : 0, 1);
    }

    private static void methods() {
        Map<String, Integer> due = new TreeMap<>(Map.of("feed", 1, "program", 1, "cost", 1, "begin", 3, "go", 2,
            "all", 2, "of", 2, "answer", 3, "open", 3, "next", 1));
        due.putAll(Map.of("ordered", 2, "common", 2, "unlike", 1, "turn", 2, "copy", 2, "would", 3, "count", 1));
        Map<String, Integer> found = new TreeMap<>();
        for (Method method : TrailSearch.class.getDeclaredMethods()) {
            if (Modifier.isPrivate(method.getModifiers())) {
                holds("no private " + method.getName(), !due.containsKey(method.getName()));
                continue;
            }
            found.put(method.getName(), method.getParameterCount());
            holds(method + " is public, not static", method.getModifiers() == Modifier.PUBLIC);
            holds(method + " is of int", method.getReturnType() == int.class);
            for (Class<?> type : method.getParameterTypes()) {
                holds(method + " takes int", type == int.class);
            }
        }
        holds("the methods are " + found, found.equals(due));
        for (Class<?> inside : TrailSearch.class.getDeclaredClasses()) {
            for (Method method : inside.getDeclaredMethods()) {
                holds("no inner " + method, !due.containsKey(method.getName()));
                holds("parameters of " + method, method.getParameterCount() <= 7);
            }
        }
    }

    private static void constants() throws IllegalAccessException {
        Map<String, Integer> due = Map.of("BAD", -2001, "NOT", -2002, "STATE", -2003, "ANSWERED", 1,
            "PAUSED", 2, "DONE", 3, "CROWDED", 4, "FILLED", 5);
        Set<String> found = new TreeSet<>();
        for (Field field : TrailSearch.class.getDeclaredFields()) {
            int modifiers = field.getModifiers();
            if (!Modifier.isPrivate(modifiers)) {
                found.add(field.getName());
                holds(field + " is a constant", Modifier.isPublic(modifiers) && Modifier.isStatic(modifiers)
                    && Modifier.isFinal(modifiers) && field.getInt(null) == due.getOrDefault(field.getName(), 0));
            }
        }
        holds("the constants are " + found, found.equals(due.keySet()));
    }

    private static void constructors() {
        Constructor<?>[] all = TrailSearch.class.getDeclaredConstructors();
        holds("one public constructor of nothing", all.length == 1 && all[0].getParameterCount() == 0
            && all[0].getModifiers() == Modifier.PUBLIC);
        holds("public and final", TrailSearch.class.getModifiers() == (Modifier.PUBLIC | Modifier.FINAL));
    }

    private static void insides() {
        Class<?>[] insides = TrailSearch.class.getDeclaredClasses();
        holds("twelve classes at most", insides.length + 1 <= 12);
        fields(TrailSearch.class);
        for (Class<?> inside : insides) {
            holds(inside + " is private and static", Modifier.isPrivate(inside.getModifiers())
                && Modifier.isStatic(inside.getModifiers()));
            fields(inside);
        }
    }

    private static void fields(Class<?> of) {
        int fields = 0;
        for (Field field : of.getDeclaredFields()) {
            boolean isStatic = Modifier.isStatic(field.getModifiers());
            fields += isStatic ? 0 : 1;
            holds(field + " is a constant", !isStatic || Modifier.isFinal(field.getModifiers()));
        }
        holds("twenty fields at most in " + of, fields <= 20);
    }

    private static void source(String source) {
        String code = source.replaceAll("(?s)/\\*.*?\\*/", " ").replaceAll("//[^\n]*", " ");
        String[] none = {"import", "package", "->", "::", "\\bcatch\\b", "\\bthrow", "\\btry\\b", "\\bfinally\\b",
            "\\bsynchronized\\b", "\\bassert\\b", "\\bequals\\b", "\\bhashCode\\b", "\\btoString\\b", "\"",
            "\\bwhile\\s*\\(\\s*true", "for\\s*\\(\\s*;\\s*;", "\\bprotected\\b", "\\bdouble\\b", "\\bfloat\\b"};
        for (String sign : none) {
            holds("no " + sign, !java.util.regex.Pattern.compile(sign).matcher(code).find());
        }
        holds("plain signs alone", source.chars().allMatch(sign -> sign == '\n' || sign >= 32 && sign < 127));
        lengths(source.split("\n"));
    }

    /** A method begins where a line of its indent opens a brace, and ends where one closes it. */
    private static void lengths(String[] lines) {
        int begun = 0;
        for (int i = 0; i < lines.length; i++) {
            if (lines[i].matches(" {4}( {4})?[a-zA-Z].*\\) \\{")) {
                begun = i;
            }
            if (lines[i].matches(" {4}( {4})?\\}")) {
                holds("a method of " + (i - begun + 1) + " lines ends at line " + (i + 1),
                    i - begun < 60 || lines[i].equals("    }"));
            }
        }
    }
}
