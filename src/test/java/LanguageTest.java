import java.io.IOException;
import java.lang.reflect.Constructor;
import java.lang.reflect.Field;
import java.lang.reflect.Method;
import java.lang.reflect.Modifier;
import java.nio.file.Files;
import java.nio.file.Path;
import java.util.Set;
import java.util.TreeSet;
import java.util.regex.Matcher;
import java.util.regex.Pattern;

/** Rules of LANGUAGE.md that can be seen from the source's words or from the class's members. */
public final class LanguageTest {
    private static final String[] RULED_OUT = {
        "->", "::", "\\bcatch\\b", "\\btry\\b", "\\bfinally\\b", "\\bsynchronized\\b", "\\bassert\\b", "\\bpackage\\b",
        "\\bstatic\\s*\\{", "Exact\\b", "\\bSystem\\.(?!arraycopy\\b)", "\\bMath\\.(?!(abs|max|min|floorDiv)\\b)",
        "\\bvar\\b", "\\bnew\\s+\\w+Exception\\((?!\\))", "\\bequals\\b", "\\bhashCode\\b", "\\btoString\\b",
        "\\bdouble\\b", "\\bfloat\\b", "^import (?!java\\.util\\.NoSuchElementException;)", "[^\\x00-\\x7f]",
    };
    private static final Checks CHECKS = new Checks();

    public static void main(String[] args) throws IOException {
        String source = Files.readString(Path.of("src/main/java/RepeatIndex.java"));
        String code = source.replaceAll("(?s)/\\*.*?\\*/", "").replaceAll("//[^\n]*", "");
        for (String ruled : RULED_OUT) {
            Matcher matcher = Pattern.compile(ruled, Pattern.MULTILINE).matcher(code);
            CHECKS.due("found in the source: " + ruled, 0, matcher.find());
        }
        Set<String> face = face();
        for (Class<?> inside : RepeatIndex.class.getDeclaredClasses()) {
            CHECKS.due(inside + " is static", 1, Modifier.isStatic(inside.getModifiers()));
            for (Method method : inside.getDeclaredMethods()) {
                CHECKS.due(inside + " has a method of the face's name: " + method, 0, face.contains(method.getName()));
            }
            statics(inside);
        }
        statics(RepeatIndex.class);
        CHECKS.finish();
    }

    private static Set<String> face() {
        Set<String> names = new TreeSet<>();
        for (Method method : RepeatIndex.class.getDeclaredMethods()) {
            if (Modifier.isPublic(method.getModifiers())) {
                CHECKS.due("told twice: " + method, 1, names.add(method.getName()));
            } else {
                CHECKS.due(method + " is private", 1, Modifier.isPrivate(method.getModifiers()));
            }
        }
        CHECKS.due("methods of the face", 21, names.size());
        for (Method method : RepeatIndex.class.getDeclaredMethods()) {
            if (Modifier.isPrivate(method.getModifiers())) {
                CHECKS.due("bears a public name: " + method, 0, names.contains(method.getName()));
            }
        }
        for (Field field : RepeatIndex.class.getDeclaredFields()) {
            boolean none = field.getName().equals("NONE");
            CHECKS.due(field + " is private", 1, none || Modifier.isPrivate(field.getModifiers()));
        }
        for (Constructor<?> constructor : RepeatIndex.class.getDeclaredConstructors()) {
            CHECKS.due("constructor without parameters", 0, constructor.getParameterCount());
        }
        return names;
    }

    private static void statics(Class<?> type) {
        for (Field field : type.getDeclaredFields()) {
            boolean open = Modifier.isStatic(field.getModifiers()) && !Modifier.isFinal(field.getModifiers());
            CHECKS.due(field + " is static and not final", 0, open);
        }
        for (Method method : type.getDeclaredMethods()) {
            CHECKS.due(method + " has too many parameters", 0, method.getParameterCount() > 7);
        }
    }
}
