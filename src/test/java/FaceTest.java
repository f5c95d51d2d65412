import java.lang.reflect.Constructor;
import java.lang.reflect.Field;
import java.lang.reflect.Member;
import java.lang.reflect.Method;
import java.lang.reflect.Modifier;
import java.nio.file.Files;
import java.nio.file.Path;
import java.util.Arrays;
import java.util.Set;
import java.util.TreeSet;
import java.util.regex.Matcher;
import java.util.regex.Pattern;

/** The public face, and those rules of LANGUAGE.md that can be seen from outside. */
public final class FaceTest {
    private static final String[] FACE = {
        "int feed(int, int, int, int)", "int cut(int)", "int method(int)", "int rule()",
        "int actor(int, int, int, int)", "int call(int, int, int, int)", "int start()", "int state(int)",
        "int holds(int)", "int choice(int, int, int, int)", "int fresh()", "int every(int, int)", "int states()",
        "int draw(int, int, int)", "int row(long, int)", "int least(int, int)", "int at(int, int)",
        "int breaks(int, int)", "int profit(int, int)", "int met(int, int)", "int kept(int, int)", "int told(int)"};

    public static void main(String[] args) throws Exception {
        members();
        constants();
        source(Files.readString(Path.of("src/main/java/InvariantSearch.java")));
        Check.end();
    }

    private static void members() {
        Class<?> type = InvariantSearch.class;
        Check.due("public final", type.getModifiers(), Modifier.PUBLIC | Modifier.FINAL);
        Set<String> seen = new TreeSet<>();
        Set<String> names = new TreeSet<>();
        for (Method m : type.getDeclaredMethods()) {
            if (isOpen(m)) {
                seen.add(m.getReturnType() + " " + m.getName() + "("
                        + String.join(", ", Arrays.stream(m.getParameterTypes()).map(Class::getName).toList()) + ")");
                names.add(m.getName());
            }
        }
        said("methods", seen.equals(new TreeSet<>(Arrays.asList(FACE))), seen.toString());
        for (Constructor<?> c : type.getDeclaredConstructors()) {
            said("constructor", Modifier.isPublic(c.getModifiers()) && c.getParameterCount() == 0, c.toString());
        }
        Set<String> fields = new TreeSet<>();
        for (Field f : type.getDeclaredFields()) {
            if (isOpen(f)) {
                fields.add(f.getName());
            }
        }
        said("fields", fields.equals(Set.of("BAD", "NONE", "FULL")), fields.toString());
        Class<?>[] inside = type.getDeclaredClasses();
        said("twelve classes", inside.length + 1 <= 12, "" + (inside.length + 1));
        said("twenty fields", fieldsOf(type) <= 20, type.getName());
        for (Method m : type.getDeclaredMethods()) {
            said("a private name of the face", isOpen(m) || !names.contains(m.getName()), m.toString());
            said("seven parameters", m.getParameterCount() <= 7, m.toString());
        }
        for (Class<?> one : inside) {
            said("static", Modifier.isStatic(one.getModifiers()), one.getName());
            said("twenty fields", fieldsOf(one) <= 20, one.getName());
            for (Method m : one.getDeclaredMethods()) {
                said("a name of the face inside", !names.contains(m.getName()), m.toString());
                said("seven parameters", m.getParameterCount() <= 7, m.toString());
            }
            for (Field f : one.getDeclaredFields()) {
                said("static fields are final", !Modifier.isStatic(f.getModifiers()) || Modifier.isFinal(f.getModifiers()), f.toString());
            }
        }
    }

    private static long fieldsOf(Class<?> type) {
        return Arrays.stream(type.getDeclaredFields()).filter(f -> !Modifier.isStatic(f.getModifiers())).count();
    }

    private static void constants() {
        Check.due("BAD", InvariantSearch.BAD, -1);
        Check.due("NONE", InvariantSearch.NONE, -2);
        Check.due("FULL", InvariantSearch.FULL, -3);
    }

    private static void source(String whole) {
        String code = whole.replaceAll("(?s)/\\*.*?\\*/", "").replaceAll("//[^\n]*", "").replaceAll("\"[^\"]*\"", "\"\"");
        for (String word : new String[] {"throw", "throws", "try", "catch", "synchronized", "assert", "package", "Object",
            "HashMap", "Exact", "System.out", "Thread", "Random", "hashCode", "toString", "goto", "->", "::"}) {
            Matcher m = Pattern.compile("(?<!\\w)" + Pattern.quote(word) + "(?!\\w)").matcher(code);
            said("no " + word, !m.find(), word);
        }
        Matcher imports = Pattern.compile("import ([\\w.*]+);").matcher(code);
        while (imports.find()) {
            said("import", Set.of("java.util.Arrays", "java.util.ArrayList", "java.util.List").contains(imports.group(1)), imports.group(1));
        }
        shortMethods(whole);
        said("characters 0 to 255", whole.chars().allMatch(c -> c < 256), "");
    }

    /** A method begins with a line that ends in ") {", and ends with a brace as far in as that began. */
    private static void shortMethods(String whole) {
        Matcher method = Pattern.compile("(?m)^( {4}| {8})(?! |if|for|while|switch|\\})[^\n;]*\\) \\{\n(?s:.*?)^\\1\\}$").matcher(whole);
        int methods = 0;
        while (method.find()) {
            methods++;
            said("sixty lines", method.group().lines().count() <= 60, method.group().lines().findFirst().orElse(""));
        }
        said("methods were looked at", methods > 100, "" + methods);
    }

    private static boolean isOpen(Member m) {
        return !Modifier.isPrivate(m.getModifiers()) && !m.isSynthetic();
    }

    private static void said(String what, boolean holds, String detail) {
        Check.due(what + " " + detail, holds ? 1 : 0, 1);
    }
}
