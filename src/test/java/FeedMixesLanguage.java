import java.io.IOException;
import java.lang.reflect.Executable;
import java.lang.reflect.Field;
import java.lang.reflect.Method;
import java.lang.reflect.Modifier;
import java.nio.file.Files;
import java.nio.file.Path;
import java.util.ArrayList;
import java.util.List;
import java.util.Set;
import java.util.TreeSet;
import java.util.regex.Matcher;
import java.util.regex.Pattern;

/**
 * What of the language's rules can be seen by reading the source, or by looking at the classes. It is narrower than the
 * rules: what the class has no use for is not looked for in the form that they would allow.
 */
public final class FeedMixesLanguage {
    private static final Path SOURCE = Path.of("src", "main", "java", "FeedMixes.java");
    private static final Set<String> LIBRARY = Set.of("Math.max", "Math.min", "Long.compare");
    private static final String[] WORDS = {"package", "import", "try", "catch", "finally", "throw", "throws", "assert",
        "synchronized", "volatile", "native", "instanceof", "var", "double", "float", "Object", "String", "System",
        "Thread"};

    private static int wrong = 0;

    public static void main(String[] args) throws IOException {
        String text = Files.readString(SOURCE);
        String code = withoutComments(text);
        checkWords(text, code);
        checkLibrary(code);
        checkMaking(code);
        checkLengths(text.lines().toList());
        List<Class<?>> classes = new ArrayList<>(List.of(FeedMixes.class.getDeclaredClasses()));
        check(classes.size() < 12, "rule 11: " + (classes.size() + 1) + " classes");
        classes.add(FeedMixes.class);
        for (Class<?> each : classes) {
            checkFields(each);
            checkMethods(each);
        }
        System.out.println(wrong == 0 ? "no rule is broken" : wrong + " rules are broken");
        if (wrong != 0) {
            System.exit(1);
        }
    }

    private static void check(boolean isSo, String what) {
        if (!isSo) {
            wrong++;
            System.out.println("not as due: " + what);
        }
    }

    private static String withoutComments(String text) {
        return text.replaceAll("(?s)/\\*.*?\\*/", " ").replaceAll("//[^\n]*", " ");
    }

    private static void checkWords(String text, String code) {
        check(text.chars().allMatch(each -> each < 128), "rule 3: plain characters alone");
        for (String word : WORDS) {
            check(!Pattern.compile("\\b" + word + "\\b").matcher(code).find(), "rules 3, 4, 6: no " + word);
        }
        for (String sign : new String[] {"->", "::", "\"", "[][][]", "@"}) {
            check(!code.contains(sign), "rules 2, 3: no " + sign);
        }
        check(!Pattern.compile("\\bstatic\\s*\\{").matcher(code).find(), "rule 5: no static initialiser");
        check(!Pattern.compile("while \\(true\\)|for \\([^;()]*;\\s*;").matcher(code).find(), "rule 9: loops have an end");
    }

    private static void checkLibrary(String code) {
        Matcher uses = Pattern.compile("\\b[A-Z]\\w*[a-z]\\w*\\.\\w+").matcher(code);
        while (uses.find()) {
            check(LIBRARY.contains(uses.group()), "rule 4: " + uses.group());
        }
    }

    /** Objects and arrays are made with the object and by no call. */
    private static void checkMaking(String code) {
        for (String line : code.lines().toList()) {
            if (line.matches(".*\\bnew\\b.*")) {
                boolean isOfConstructor = line.strip().startsWith("private final ") || line.strip().startsWith("this.");
                check(isOfConstructor, "rule 12: " + line.strip());
            }
        }
    }

    /** A method begins with a line that ends in '{' and has no ';', and ends with a '}' that stands as far in as it. */
    private static void checkLengths(List<String> lines) {
        int methods = 0;
        for (int place = 0; place < lines.size(); place++) {
            String line = lines.get(place);
            if (line.matches(" +(public|private) (?!.*\\bclass\\b)[^;=]*\\) \\{")) {
                String end = line.substring(0, line.indexOf('p')) + "}";
                int last = place;
                while (last < lines.size() && !lines.get(last).equals(end)) {
                    last++;
                }
                methods++;
                check(last - place < 60, "rule 11: " + line.strip() + " has " + (last - place + 1) + " lines");
            }
        }
        check(methods > 40, "the methods are found: " + methods);
    }

    private static void checkFields(Class<?> owner) {
        int own = 0;
        for (Field each : owner.getDeclaredFields()) {
            int kind = each.getModifiers();
            if (Modifier.isStatic(kind)) {
                check(Modifier.isFinal(kind) && each.getType().isPrimitive(), "rule 5: " + each);
            } else {
                own++;
                check(Modifier.isPrivate(kind), "rule 1: " + each);
            }
        }
        check(own <= 20, "rule 11: " + own + " fields of " + owner);
    }

    private static void checkMethods(Class<?> owner) {
        Set<String> face = new TreeSet<>();
        for (Method each : FeedMixes.class.getDeclaredMethods()) {
            if (Modifier.isPublic(each.getModifiers())) {
                face.add(each.getName());
            }
        }
        List<Executable> all = new ArrayList<>(List.of(owner.getDeclaredMethods()));
        all.addAll(List.of(owner.getDeclaredConstructors()));
        for (Executable each : all) {
            check(each.getParameterCount() <= 7, "rule 11: " + each);
            boolean isOfFace = Modifier.isPublic(each.getModifiers());
            check(isOfFace ? owner == FeedMixes.class : Modifier.isPrivate(each.getModifiers()), "rule 1: " + each);
            check(isOfFace || !face.contains(each.getName()), "rule 1, a name of the face: " + each);
        }
    }
}
