import java.io.IOException;
import java.lang.reflect.Constructor;
import java.lang.reflect.Field;
import java.lang.reflect.Method;
import java.lang.reflect.Modifier;
import java.nio.file.Files;
import java.nio.file.Path;
import java.util.Map;
import java.util.Set;
import java.util.TreeMap;
import java.util.TreeSet;
import java.util.regex.Matcher;
import java.util.regex.Pattern;

/** Rules of LANGUAGE.md that can be seen from the source's words or from the class's members. */
public final class LanguageTest {
    private static final String[] RULED_OUT = {
        "->", "::", "\\bcatch\\b", "\\btry\\b", "\\bfinally\\b", "\\bsynchronized\\b", "\\bassert\\b", "\\bpackage\\b",
        "\\bstatic\\s*\\{", "Exact\\b", "\\bSystem\\.(?!arraycopy\\b)", "\\bMath\\.(?!(abs|max|min|floorDiv)\\b)",
        "\\bvar\\b", "\\bnew\\s+\\w+Exception\\((?!\\))", "\\bequals\\b", "\\bhashCode\\b", "\\btoString\\b",
        "\\bdouble\\b", "\\bfloat\\b", "^import (?!java\\.util\\.NoSuchElementException;)", "[^\\x00-\\x7f]",
    };
    private static final int MOST_LINES = 60;
    private static final int MOST_DEEP = 8;
    private static final Checks CHECKS = new Checks();

    public static void main(String[] args) throws IOException {
        String source = Files.readString(Path.of("src/main/java/RepeatIndex.java"));
        String code = source.replaceAll("(?s)/\\*.*?\\*/", "").replaceAll("//[^\n]*", "");
        for (String ruled : RULED_OUT) {
            Matcher matcher = Pattern.compile(ruled, Pattern.MULTILINE).matcher(code);
            CHECKS.due("found in the source: " + ruled, 0, matcher.find());
        }
        Set<String> face = face();
        for (Class<?> inside : RepeatIndex.class.getDeclaredClasses()) {
            CHECKS.due(inside + " is static", 1, Modifier.isStatic(inside.getModifiers()));
            for (Method method : inside.getDeclaredMethods()) {
                CHECKS.due(inside + " has a method of the face's name: " + method, 0, face.contains(method.getName()));
            }
            statics(inside);
        }
        statics(RepeatIndex.class);
        methods(code);
        CHECKS.finish();
    }

    /** Rule 11: methods stay short, and calls go at most eight deep; a method is known by its name alone. */
    private static void methods(String code) {
        Map<String, String> bodies = new TreeMap<>();
        Matcher head = Pattern.compile("^ {4,8}(?!new |if |else |for |while |switch |return )[\\w \\[\\]]*?(\\w+)\\([^;{]*\\{",
            Pattern.MULTILINE).matcher(code);
        while (head.find()) {
            String body = code.substring(head.end(), endOfBlock(code, head.end()));
            CHECKS.due("lines of " + head.group(1) + " are many", 0, body.split("\n").length > MOST_LINES);
            CHECKS.due("two methods of one name: " + head.group(1), 0, bodies.put(head.group(1), body) != null);
        }
        CHECKS.due("methods of the face are found", 1, bodies.keySet().containsAll(face()));
        for (String name : bodies.keySet()) {
            CHECKS.due("calls from " + name + " go too deep", 0, depth(name, bodies, 1) > MOST_DEEP);
        }
    }

    private static int endOfBlock(String code, int from) {
        int open = 1;
        int at = from;
        while (open > 0) {
            open += code.charAt(at) == '{' ? 1 : code.charAt(at) == '}' ? -1 : 0;
            at++;
        }
        return at;
    }

    private static int depth(String name, Map<String, String> bodies, int above) {
        int deepest = above;
        Matcher call = Pattern.compile("(\\w+)\\(").matcher(bodies.get(name));
        while (call.find() && deepest <= MOST_DEEP) {
            if (bodies.containsKey(call.group(1))) {
                deepest = Math.max(deepest, depth(call.group(1), bodies, above + 1));
            }
        }
        return deepest;
    }

    private static Set<String> face() {
        Set<String> names = new TreeSet<>();
        for (Method method : RepeatIndex.class.getDeclaredMethods()) {
            if (Modifier.isPublic(method.getModifiers())) {
                CHECKS.due("told twice: " + method, 1, names.add(method.getName()));
            } else {
                CHECKS.due(method + " is private", 1, Modifier.isPrivate(method.getModifiers()));
            }
        }
        CHECKS.due("methods of the face", 21, names.size());
        for (Method method : RepeatIndex.class.getDeclaredMethods()) {
            if (Modifier.isPrivate(method.getModifiers())) {
                CHECKS.due("bears a public name: " + method, 0, names.contains(method.getName()));
            }
        }
        for (Field field : RepeatIndex.class.getDeclaredFields()) {
            boolean none = field.getName().equals("NONE");
            CHECKS.due(field + " is private", 1, none || Modifier.isPrivate(field.getModifiers()));
        }
        for (Constructor<?> constructor : RepeatIndex.class.getDeclaredConstructors()) {
            CHECKS.due("constructor without parameters", 0, constructor.getParameterCount());
        }
        return names;
    }

    private static void statics(Class<?> type) {
        for (Field field : type.getDeclaredFields()) {
            boolean open = Modifier.isStatic(field.getModifiers()) && !Modifier.isFinal(field.getModifiers());
            CHECKS.due(field + " is static and not final", 0, open);
        }
        for (Method method : type.getDeclaredMethods()) {
            CHECKS.due(method + " has too many parameters", 0, method.getParameterCount() > 7);
        }
    }
}
