import java.io.IOException;
import java.lang.reflect.Method;
import java.lang.reflect.Modifier;
import java.nio.file.Files;
import java.nio.file.Path;
import java.util.ArrayList;
import java.util.List;
import java.util.regex.Matcher;
import java.util.regex.Pattern;

/** The calls that README.md shows must answer what it says behind them, and it must show every call of the face. */
public final class ReadmeTest {
    private static final Path README = Path.of("README.md");
    private static final String MADE = "ReadmeCalls";
    private static final String FIRST = "LightDoses doses = new LightDoses();";
    private static final Pattern CALL = Pattern.compile("(int (\\w+) = )?(.+); *// (-?\\d+|throws \\w+): .+");

    public static void main(String[] args) throws Exception {
        List<String> shown = shownLines();
        for (Method method : LightDoses.class.getDeclaredMethods()) {
            if (Modifier.isPublic(method.getModifiers())) {
                String call = "doses." + method.getName() + "(";
                boolean isThere = shown.stream().anyMatch(line -> line.contains(call));
                Due.is("README shows " + call, String.valueOf(isThere), "true");
            }
        }
        StringBuilder source = new StringBuilder("final class " + MADE + " {\n    static void make() {\n");
        for (String line : shown) {
            source.append(compared(line)).append('\n');
        }
        compile(source.append("    }\n}\n").toString());
        Method make = Class.forName(MADE).getDeclaredMethod("make");
        make.invoke(null);
        Due.end();
    }

    /** The lines of the Java block. */
    private static List<String> shownLines() throws IOException {
        List<String> lines = Files.readAllLines(README);
        int start = lines.indexOf("```java") + 1;
        List<String> shown = new ArrayList<>(lines.subList(start, lines.size()));
        return shown.subList(0, shown.indexOf("```"));
    }

    private static String compared(String line) {
        Matcher call = CALL.matcher(line);
        if (!call.matches()) {
            boolean needsNoAnswer = line.isEmpty() || line.equals(FIRST);
            Due.is("README says what is answered: " + line, String.valueOf(needsNoAnswer), "true");
            return line;
        }
        String due = "\"" + call.group(4).replace("throws ", "throws.") + "\"";
        String what = "\"README: " + call.group(3) + "\"";
        if (call.group(1) != null) {
            return line + "\nDue.is(" + what + ", () -> " + call.group(2) + ", " + due + ");";
        }
        return "Due.is(" + what + ", () -> " + call.group(3) + ", " + due + ");";
    }

    // Beside this test's own classes, so that the calls are loaded with them and can use what they use.
    private static void compile(String source) throws IOException, InterruptedException {
        String classes = System.getProperty("java.class.path");
        Path file = Path.of(classes, MADE + ".java");
        Files.writeString(file, source);
        Process javac = new ProcessBuilder("javac", "-cp", classes, "-d", classes, file.toString()).inheritIO().start();
        Due.is("README's calls, compiled, javac's exit code", String.valueOf(javac.waitFor()), "0");
    }
}
