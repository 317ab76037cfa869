import java.io.File;
import java.lang.reflect.Method;
import java.lang.reflect.Modifier;
import java.net.URL;
import java.net.URLClassLoader;
import java.nio.file.Files;
import java.nio.file.Path;
import java.util.ArrayList;
import java.util.List;
import java.util.TreeSet;
import java.util.function.Supplier;
import java.util.regex.Matcher;
import java.util.regex.Pattern;
import javax.tools.ToolProvider;

/** README.md: its lines of use are compiled as they stand, and answer what is said behind them. */
final class ReadmeTest {
    private static final Check check = new Check("ReadmeTest");
    private static final Pattern ANSWERED = Pattern.compile("(map\\.\\w+\\(.*\\)); +// (-?\\d+): .*");

    public static void main(String[] args) throws Exception {
        List<String> page = Files.readAllLines(Path.of("README.md"));
        use(section(page, "## Use"));
        calls(section(page, "## Use"));
        tests(section(page, "## Tests"));
        check.finish();
    }

    private static List<String> section(List<String> page, String title) {
        List<String> lines = new ArrayList<>();
        boolean within = false;
        for (String line : page) {
            within = line.startsWith("## ") ? line.equals(title) : within;
            if (within) {
                lines.add(line);
            }
        }
        return lines;
    }

    private static void use(List<String> lines) throws Exception {
        StringBuilder body = new StringBuilder();
        List<String> calls = new ArrayList<>();
        List<Long> due = new ArrayList<>();
        for (String line : lines) {
            Matcher answered = ANSWERED.matcher(line.trim());
            if (answered.matches()) {
                body.append("answers[").append(calls.size()).append("] = ").append(answered.group(1)).append(";\n");
                calls.add(answered.group(1));
                due.add(Long.parseLong(answered.group(2)));
            } else if (line.startsWith("    ") && !line.trim().startsWith("java")) {
                body.append(line).append('\n');
            }
        }
        long[] answers = answers(body.toString());
        check.due("lines that tell what they answer", calls.size() > 20 ? 1 : 0, 1);
        for (int i = 0; i < calls.size(); i++) {
            check.due(calls.get(i), answers[i], due.get(i));
        }
    }

    private static long[] answers(String body) throws Exception {
        Path folder = Files.createTempDirectory("readme");
        Path mine = folder.resolve("Mine.java");
        Files.writeString(mine, "public final class Mine implements java.util.function.Supplier<long[]> {\n"
            + "public long[] get() {\nlong[] answers = new long[99];\n" + body + "return answers;\n}\n}\n");
        int code = ToolProvider.getSystemJavaCompiler().run(null, null, null, "-d", folder.toString(),
            "-cp", System.getProperty("java.class.path"), mine.toString());
        check.due("the lines are compiled", code, 0);
        long[] answers = new long[99];
        if (code == 0) {
            try (URLClassLoader loader = new URLClassLoader(new URL[] {folder.toUri().toURL()})) {
                Object made = loader.loadClass("Mine").getConstructor().newInstance();
                answers = (long[]) ((Supplier<?>) made).get();
            }
        }
        for (File file : folder.toFile().listFiles()) {
            Files.delete(file.toPath());
        }
        Files.delete(folder);
        return answers;
    }

    private static TreeSet<String> firstColumn(List<String> lines) {
        TreeSet<String> words = new TreeSet<>();
        for (String line : lines) {
            if (line.startsWith("| ") && !line.startsWith("| -")) {
                for (String word : line.split("\\|")[1].trim().split(" ")) {
                    check.due(word + " is told twice", words.add(word) ? 0 : 1, 0);
                }
            }
        }
        return words;
    }

    private static void alike(String what, TreeSet<String> told, TreeSet<String> there) {
        check.due(what + ", told: " + told + ", there: " + there, told.equals(there) ? 1 : 0, 1);
    }

    private static void calls(List<String> lines) {
        TreeSet<String> there = new TreeSet<>(List.of("calls"));
        for (Method m : VotedMap.class.getDeclaredMethods()) {
            if (Modifier.isPublic(m.getModifiers())) {
                there.add(m.getName());
            }
        }
        alike("calls", firstColumn(lines), there);
    }

    private static void tests(List<String> lines) {
        TreeSet<String> there = new TreeSet<>(List.of("test"));
        for (File file : new File("src/test/java").listFiles()) {
            if (file.getName().endsWith("Test.java")) {
                there.add(file.getName().replace(".java", ""));
            }
        }
        alike("tests", firstColumn(lines), there);
    }
}
