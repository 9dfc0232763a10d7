import java.io.IOException;
import java.lang.reflect.Field;
import java.lang.reflect.Method;
import java.lang.reflect.Modifier;
import java.nio.file.Files;
import java.nio.file.Path;
import java.util.ArrayList;
import java.util.List;
import java.util.Set;
import java.util.TreeSet;
import java.util.regex.Matcher;
import java.util.regex.Pattern;

/** Rules of LANGUAGE.md that a look at the source's words, or at the compiled class, can tell. */
public final class LanguageTest {
    private static final Path SOURCE = Path.of("src/main/java/LightDoses.java");
    private static final Set<String> IMPORTS = Set.of("java.util.ArrayList", "java.util.List", "java.util.Arrays");
    private static final Set<Class<?>> CONSTANTS = Set.of(int.class, long.class, boolean.class, char.class,
        String.class, int[].class, long[].class, char[].class, byte[].class);
    private static final String[] LEFT_OUT = {"->", "::", "\\btry\\b", "\\bcatch\\b", "\\bfinally\\b", "\\bassert\\b",
        "\\bsynchronized\\b", "Exact\\b", "\\bstatic *\\{", "\\bpackage\\b", "\\bSystem\\.(?!arraycopy)",
        "\\b(double|float|Thread|Random|Object|Objects)\\b"};
    private static final String THROWN = "throw new Illegal(State|Argument)Exception\\(\"\"\\);"
        + "|throw new IndexOutOfBoundsException\\(\"\"\\);";
    private static final Pattern METHOD = Pattern.compile("( {4}| {8})(?! ).*\\b(\\w+)\\(.*(\\{|[(,\\w])");

    public static void main(String[] args) throws IOException {
        List<String> lines = wordsOf(Files.readString(SOURCE));
        rule4Imports(lines);
        rule6Throws(lines);
        leftOut(lines);
        rule11Lengths(lines);
        List<Class<?>> classes = new ArrayList<>(List.of(LightDoses.class.getDeclaredClasses()));
        for (Class<?> nested : classes) {
            int seen = nested.getModifiers() & (Modifier.STATIC | Modifier.PUBLIC | Modifier.PROTECTED);
            Due.is("rule 1: " + nested, Modifier.toString(seen), "static");
        }
        classes.add(LightDoses.class);
        good("rule 11: at most some twelve classes", classes.size() <= 12);
        rule1Names(classes);
        for (Class<?> one : classes) {
            rule5Statics(one);
            rule11Counts(one);
        }
        Due.end();
    }

    private static void good(String what, boolean isGood) {
        Due.is(what, String.valueOf(isGood), "true");
    }

    /** The source without its comments and the texts between quotes. */
    private static List<String> wordsOf(String source) {
        String bare = source.replaceAll("(?s)/\\*.*?\\*/", "").replaceAll("//[^\n]*", "");
        return List.of(bare.replaceAll("\"[^\"\n]*\"", "\"\"").split("\n"));
    }

    private static void rule4Imports(List<String> lines) {
        for (String line : lines) {
            if (line.startsWith("import ")) {
                String name = line.substring(7, line.length() - 1);
                good("rule 4: " + line, IMPORTS.contains(name));
            }
        }
    }

    private static void rule6Throws(List<String> lines) {
        for (String line : lines) {
            if (line.contains("throw ")) {
                good("rule 6: " + line, line.trim().matches(THROWN));
            }
        }
    }

    private static void leftOut(List<String> lines) {
        for (String word : LEFT_OUT) {
            Pattern pattern = Pattern.compile(word);
            for (String line : lines) {
                if (pattern.matcher(line).find()) {
                    Due.is("rules 2 to 6 and 13: " + word, line, "not there");
                }
            }
        }
    }

    private static void rule11Lengths(List<String> lines) {
        int methods = 0;
        for (int start = 0; start < lines.size(); start++) {
            Matcher head = METHOD.matcher(lines.get(start));
            if (head.matches()) {
                int end = start;
                while (end < lines.size() && !lines.get(end).equals(head.group(1) + "}")) {
                    end++;
                }
                methods++;
                good("rule 11: the length of " + head.group(2), end - start < 60);
            }
        }
        good("rule 11: methods are found", methods > LightDoses.class.getDeclaredMethods().length);
    }

    private static void rule1Names(List<Class<?>> classes) {
        Set<String> face = new TreeSet<>(Set.of("equals", "hashCode", "toString"));
        for (Method method : LightDoses.class.getDeclaredMethods()) {
            if (Modifier.isPublic(method.getModifiers())) {
                face.add(method.getName());
            }
        }
        for (Class<?> one : classes) {
            for (Method method : one.getDeclaredMethods()) {
                boolean isOfFace = one == LightDoses.class && Modifier.isPublic(method.getModifiers());
                good("rules 1 and 6: " + method, isOfFace || !face.contains(method.getName()));
            }
        }
    }

    private static void rule5Statics(Class<?> one) {
        for (Field field : one.getDeclaredFields()) {
            if (Modifier.isStatic(field.getModifiers())) {
                good("rule 5: " + field, Modifier.isFinal(field.getModifiers()) && CONSTANTS.contains(field.getType()));
            }
        }
    }

    private static void rule11Counts(Class<?> one) {
        int fields = 0;
        for (Field field : one.getDeclaredFields()) {
            fields += Modifier.isStatic(field.getModifiers()) ? 0 : 1;
        }
        good("rule 11: the fields of " + one, fields <= 20);
        for (Method method : one.getDeclaredMethods()) {
            good("rule 11: the parameters of " + method, method.getParameterCount() <= 7);
        }
    }
}
