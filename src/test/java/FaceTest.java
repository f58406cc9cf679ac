import java.io.IOException;
import java.lang.reflect.Method;
import java.lang.reflect.Modifier;
import java.nio.file.Files;
import java.nio.file.Path;
import java.util.Arrays;
import java.util.Set;
import java.util.TreeSet;
import java.util.stream.Collectors;

/** "The public face": what the class shows is what the document's block shows, no more and no less. */
public final class FaceTest {
    private static final Checks CHECKS = new Checks();

    public static void main(String[] args) throws IOException {
        String doc = Files.readString(Path.of("../shared/DOC.md"));
        Set<String> told = toldMembers(doc);
        Set<String> seen = seenMembers();
        for (String member : told) {
            CHECKS.due("the class has " + member, 1, seen.contains(member));
        }
        for (String member : seen) {
            CHECKS.due("the document has " + member, 1, told.contains(member));
        }
        CHECKS.due("members told", 23, told.size());
        CHECKS.due("NONE", -1, RepeatIndex.NONE);
        CHECKS.due("the class is public and final", Modifier.PUBLIC | Modifier.FINAL, RepeatIndex.class.getModifiers());
        CHECKS.due("the class has no package", 1, RepeatIndex.class.getPackageName().isEmpty());
        CHECKS.due("classes inside that are public", 0, RepeatIndex.class.getClasses().length);
        CHECKS.finish();
    }

    private static Set<String> toldMembers(String doc) {
        int from = doc.indexOf("public final class RepeatIndex {");
        String block = doc.substring(from, doc.indexOf("```", from));
        Set<String> members = new TreeSet<>();
        for (String line : block.split("\n")) {
            String member = line.trim();
            if (member.startsWith("public ") && member.endsWith(";")) {
                members.add(withoutNames(member.substring(0, member.length() - 1)));
            }
        }
        return members;
    }

    /** Parameters' names are not kept in a class file. */
    private static String withoutNames(String member) {
        return member.replaceAll("\\b(int|boolean|long) \\w+(?=[,)])", "$1").replaceAll(" = .*", "");
    }

    private static Set<String> seenMembers() {
        Set<String> members = new TreeSet<>();
        for (Method method : RepeatIndex.class.getDeclaredMethods()) {
            if (!Modifier.isPrivate(method.getModifiers())) {
                members.add(Modifier.toString(method.getModifiers()) + " " + method.getReturnType().getSimpleName() + " "
                    + method.getName() + "(" + names(method.getParameterTypes()) + ")" + thrown(method));
            }
        }
        Arrays.stream(RepeatIndex.class.getDeclaredConstructors())
            .filter(c -> !Modifier.isPrivate(c.getModifiers()))
            .forEach(c -> members.add(Modifier.toString(c.getModifiers()) + " " + c.getName() + "("
                + names(c.getParameterTypes()) + ")"));
        Arrays.stream(RepeatIndex.class.getDeclaredFields())
            .filter(f -> !Modifier.isPrivate(f.getModifiers()))
            .forEach(f -> members.add(Modifier.toString(f.getModifiers()) + " " + f.getType() + " " + f.getName()));
        return members;
    }

    private static String thrown(Method method) {
        Class<?>[] types = method.getExceptionTypes();
        return types.length == 0 ? "" : " throws " + names(types);
    }

    private static String names(Class<?>[] types) {
        return Arrays.stream(types).map(Class::getSimpleName).collect(Collectors.joining(", "));
    }
}
