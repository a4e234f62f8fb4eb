import java.lang.reflect.Method;
import java.lang.reflect.Modifier;
import java.net.URL;
import java.net.URLClassLoader;
import java.nio.file.Files;
import java.nio.file.Path;
import java.util.ArrayList;
import java.util.List;
import java.util.regex.Matcher;
import java.util.regex.Pattern;
import javax.tools.ToolProvider;

/** What README.md shows of the class's use is what the class answers. */
public final class ReadmeTest {
    private static final Path README = Path.of("README.md");
    private static final String SHOWN = "ReadmeShown";
    private static final int KINDS = 10;

    // A call, or a variable made from one, and behind it the answer as the comment's first word.
    private static final Pattern ANSWERED = Pattern.compile(
            "(?:int (\\w+) = )?(\\S.*); +// (-?\\d+|true|false|BAD|FULL|NONE)\\b.*");
    private static final Pattern KIND_ROW = Pattern.compile("\\| (\\d) \\| .* \\| ([01 ]+) \\|");

    private static final Checks CHECKS = new Checks();

    public static void main(String[] args) throws Exception {
        List<String> lines = Files.readAllLines(README);
        List<List<String>> programs = javaBlocks(lines);
        CHECKS.same("README.md: programs shown", programs.size(), 2);
        everyMethodIsShown(programs);
        programsAnswerAsShown(programs);
        kindsAreAsShown(lines);
        CHECKS.done();
    }

    /** Called by the programs made out of README.md. */
    public static void due(String shown, Object got, Object want) {
        CHECKS.same("README.md: " + shown + " (the class: " + got + ")", got.equals(want), true);
    }

    private static List<List<String>> javaBlocks(List<String> lines) {
        List<List<String>> blocks = new ArrayList<>();
        boolean inside = false;
        for (String line : lines) {
            if (line.equals("```java")) {
                inside = true;
                blocks.add(new ArrayList<>());
            } else if (line.startsWith("```")) {
                inside = false;
            } else if (inside) {
                blocks.get(blocks.size() - 1).add(line);
            }
        }
        return blocks;
    }

    private static void everyMethodIsShown(List<List<String>> programs) {
        for (Method method : SweepChecker.class.getDeclaredMethods()) {
            if (Modifier.isPublic(method.getModifiers())) {
                String start = "s." + method.getName() + "(";
                boolean shown = false;
                for (List<String> program : programs) {
                    shown |= program.stream().anyMatch(
                            line -> line.contains(start) && ANSWERED.matcher(line).matches());
                }
                CHECKS.same("README.md shows an answer of " + method.getName(), shown, true);
            }
        }
    }

    private static void programsAnswerAsShown(List<List<String>> programs) throws Exception {
        StringBuilder source = new StringBuilder("public final class " + SHOWN + " {\n");
        for (int n = 0; n < programs.size(); n++) {
            source.append("public static void program").append(n).append("() {\n");
            for (String line : programs.get(n)) {
                source.append(asking(line)).append('\n');
            }
            source.append("}\n");
        }
        source.append("}\n");
        Path folder = Files.createTempDirectory("readme");
        try {
            run(folder, source.toString(), programs.size());
        } finally {
            Files.deleteIfExists(folder.resolve(SHOWN + ".java"));
            Files.deleteIfExists(folder.resolve(SHOWN + ".class"));
            Files.delete(folder);
        }
    }

    /** The line as it stands or, where it shows an answer, with a comparison made of it. */
    private static String asking(String line) {
        Matcher answered = ANSWERED.matcher(line);
        if (!answered.matches()) {
            CHECKS.same("README.md: an answer begins the comment in: " + line,
                    line.contains("//"), false);
            return line;
        }
        String variable = answered.group(1);
        String call = answered.group(2);
        String answer = answered.group(3);
        String want = Character.isUpperCase(answer.charAt(0)) ? "SweepChecker." + answer : answer;
        String first = variable == null ? "" : "int " + variable + " = " + call + ";\n";
        String asked = variable == null ? call : variable;
        String shown = (call + " // " + answer).replace("\\", "\\\\").replace("\"", "\\\"");
        return first + "ReadmeTest.due(\"" + shown + "\", " + asked + ", " + want + ");";
    }

    private static void run(Path folder, String source, int programs) throws Exception {
        Path file = Files.writeString(folder.resolve(SHOWN + ".java"), source);
        String classes = System.getProperty("java.class.path");
        int exit = ToolProvider.getSystemJavaCompiler().run(null, null, null, "--release", "17",
                "-cp", classes, "-d", folder.toString(), file.toString());
        CHECKS.same("README.md: compiling its Java", exit, 0);
        if (exit != 0) {
            return;
        }
        URL[] places = {folder.toUri().toURL()};
        ClassLoader own = ReadmeTest.class.getClassLoader();
        try (URLClassLoader loader = new URLClassLoader(places, own)) {
            Class<?> shown = loader.loadClass(SHOWN);
            for (int n = 0; n < programs; n++) {
                shown.getMethod("program" + n).invoke(null);
            }
        }
    }

    private static void kindsAreAsShown(List<String> lines) {
        int kinds = 0;
        for (String line : lines) {
            Matcher row = KIND_ROW.matcher(line);
            if (row.matches()) {
                CHECKS.same("README.md: kind in " + line, Integer.parseInt(row.group(1)), kinds);
                CHECKS.same("README.md: " + line, row.group(2).equals(valuesOf(kinds)), true);
                kinds++;
            }
        }
        CHECKS.same("README.md: kinds shown", kinds, KINDS);
    }

    /** Its values as the table has them: a is the highest bit of the row's number. */
    private static String valuesOf(int kind) {
        SweepChecker s = new SweepChecker();
        int wire = kind < 7 ? s.gate(kind, 1, 0, 0) : s.gate(kind, 2, 1, 0);
        int rows = kind < 7 ? 4 : 8;
        StringBuilder values = new StringBuilder();
        for (int x = 0; x < rows; x++) {
            values.append(x == 0 ? "" : " ").append(s.value(wire, x));
        }
        return values.toString();
    }
}
