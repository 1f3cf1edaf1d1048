import java.io.File;
import java.io.IOException;
import java.lang.reflect.Method;
import java.lang.reflect.Modifier;
import java.net.URL;
import java.net.URLClassLoader;
import java.nio.file.Files;
import java.nio.file.Path;
import java.util.ArrayList;
import java.util.List;
import java.util.Set;
import java.util.TreeSet;
import java.util.regex.Matcher;
import java.util.regex.Pattern;
import javax.tools.JavaCompiler;
import javax.tools.ToolProvider;

/**
 * What README.md shows is so: its pieces of Java are one program, which is compiled and run, and each call in it answers
 * what stands behind it. It speaks of every call of the face and of every test.
 */
public final class FeedMixesReadme {
    private static final Pattern SHOWN =
            Pattern.compile("(?:(int|long|boolean) (\\w+) = )?(mixes\\..*\\));\\s+// (-?\\d+|true|false|NONE)\\b.*");
    private static final Pattern LISTED_TEST = Pattern.compile("- `(FeedMixes\\w+)`: ");

    private static int wrong = 0;

    public static void main(String[] args) throws Exception {
        String readme = Files.readString(Path.of("README.md"));
        speaksOfAll(readme);
        List<String> shown = linesOfJava(readme);
        Path directory = Files.createTempDirectory("readme");
        int answers = 0;
        try {
            answers = play(directory, shown);
        } finally {
            removeAll(directory);
        }
        System.out.println(answers + " calls are shown; "
                + (wrong == 0 ? "all is as shown" : wrong + " things are not as shown"));
        if (wrong != 0) {
            System.exit(1);
        }
    }

    private static void tell(String what) {
        wrong++;
        System.out.println(what);
    }

    private static void speaksOfAll(String readme) {
        for (Method each : FeedMixes.class.getDeclaredMethods()) {
            if (Modifier.isPublic(each.getModifiers())) {
                boolean isShown = readme.contains("mixes." + each.getName() + "(");
                boolean isListed = readme.contains("| `" + each.getName() + "(");
                if (!isShown || !isListed) {
                    tell("README.md does not show and list the call " + each.getName());
                }
            }
        }
        Set<String> tests = new TreeSet<>();
        String[] files = new File("src/test/java").list();
        for (String each : files == null ? new String[0] : files) {
            tests.add(each.replace(".java", ""));
        }
        Set<String> listed = new TreeSet<>();
        Matcher places = LISTED_TEST.matcher(readme);
        while (places.find()) {
            listed.add(places.group(1));
        }
        if (!listed.equals(tests)) {
            tell("README.md speaks of the tests " + listed + ", there are " + tests);
        }
    }

    private static List<String> linesOfJava(String readme) {
        List<String> all = new ArrayList<>();
        boolean isJava = false;
        for (String line : readme.lines().toList()) {
            if (line.startsWith("```")) {
                isJava = line.equals("```java");
            } else if (isJava) {
                all.add(line);
            }
        }
        return all;
    }

    private static int play(Path directory, List<String> shown) throws Exception {
        List<String> program = new ArrayList<>();
        program.add("public final class Shown {");
        program.add("    private static final long NONE = FeedMixes.NONE;");
        program.add("    private static long number(long answer) { return answer; }");
        program.add("    private static long number(boolean answer) { return answer ? 1 : 0; }");
        program.add("    public static void play(java.util.List<Long> answers) {");
        List<String> calls = new ArrayList<>();
        List<String> dues = new ArrayList<>();
        for (String line : shown) {
            addLine(program, line.strip(), calls, dues);
        }
        program.add("    }");
        program.add("}");
        List<Long> answers = answersOf(directory, program);
        for (int place = 0; place < answers.size(); place++) {
            String due = dues.get(place);
            long want = due.equals("NONE") ? FeedMixes.NONE
                    : due.equals("true") ? 1 : due.equals("false") ? 0 : Long.parseLong(due);
            if (answers.get(place) != want) {
                tell(calls.get(place) + " answered " + answers.get(place) + ", shown is " + due);
            }
        }
        if (answers.isEmpty() || answers.size() != calls.size()) {
            tell(answers.size() + " calls answered, " + calls.size() + " are shown");
        }
        return calls.size();
    }

    private static void addLine(List<String> program, String line, List<String> calls, List<String> dues) {
        Matcher parts = SHOWN.matcher(line);
        if (!parts.matches()) {
            if (line.contains("mixes.")) {
                tell("no answer is shown: " + line);
            }
            program.add(line);
            return;
        }
        String call = parts.group(3);
        calls.add(call);
        dues.add(parts.group(4));
        if (parts.group(2) == null) {
            program.add("        answers.add(number(" + call + "));");
        } else {
            program.add("        " + parts.group(1) + " " + parts.group(2) + " = " + call + ";");
            program.add("        answers.add(number(" + parts.group(2) + "));");
        }
    }

    private static List<Long> answersOf(Path directory, List<String> program) throws Exception {
        List<Long> answers = new ArrayList<>();
        Path source = directory.resolve("Shown.java");
        Files.write(source, program);
        JavaCompiler compiler = ToolProvider.getSystemJavaCompiler();
        if (compiler == null) {
            tell("this java has no compiler, so what README.md shows cannot be tried");
            return answers;
        }
        if (compiler.run(null, null, null, "-nowarn", "-d", directory.toString(), "-cp",
                System.getProperty("java.class.path"), source.toString()) != 0) {
            tell("what README.md shows does not compile");
            return answers;
        }
        URL[] places = {directory.toUri().toURL()};
        try (URLClassLoader loader = new URLClassLoader(places, FeedMixes.class.getClassLoader())) {
            loader.loadClass("Shown").getMethod("play", List.class).invoke(null, answers);
        }
        return answers;
    }

    private static void removeAll(Path directory) throws IOException {
        File[] files = directory.toFile().listFiles();
        for (File each : files == null ? new File[0] : files) {
            Files.delete(each.toPath());
        }
        Files.delete(directory);
    }
}
