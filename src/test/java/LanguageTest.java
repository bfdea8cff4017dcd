import java.io.IOException;
import java.lang.reflect.Field;
import java.lang.reflect.Method;
import java.lang.reflect.Modifier;
import java.nio.file.Files;
import java.nio.file.Path;
import java.util.List;
import java.util.regex.Matcher;
import java.util.regex.Pattern;
import java.util.stream.Stream;

/** What of LANGUAGE.md can be seen in the source or in the compiled class. */
public final class LanguageTest {
    private static final Path MAIN = Path.of("src", "main", "java");

    /** What the rules forbid, and what they bind so tightly that the class does without it. */
    private static final String[] NOT_USED = {
        "\\b(package|import)\\b", "\\b(throws?|try|catch|finally|assert|synchronized|instanceof|native|volatile)\\b",
        "\\b(double|float|protected|enum|record|interface|abstract)\\b", "->", "::", "@", "\"",
        "\\b(System|Thread|Object|String|Integer|List|ArrayList)\\b", "\\bstatic \\{", "\\bvar\\b", "\\w\\[\\]\\[\\]",
    };

    private final Check check = new Check();

    public static void main(String[] args) throws IOException {
        LanguageTest test = new LanguageTest();
        String source = withoutComments(Files.readString(MAIN.resolve("SwitchLevels.java")));
        test.oneFile();
        test.notUsed(source);
        test.shortMethods(source.split("\n"));
        test.madeInConstructorsAlone(source.split("\n"));
        test.classes();
        test.check.end();
    }

    private static String withoutComments(String source) {
        return source.replaceAll("(?s)/\\*.*?\\*/", "").replaceAll("//[^\n]*", "");
    }

    private void oneFile() throws IOException {
        try (Stream<Path> files = Files.walk(MAIN)) {
            List<String> names = files.filter(Files::isRegularFile).map(MAIN::relativize).map(Path::toString).toList();
            check.due("the files of the program", names.toString(), "[SwitchLevels.java]");
        }
    }

    private void notUsed(String source) {
        for (String words : NOT_USED) {
            Matcher found = Pattern.compile(words).matcher(source);
            check.due("in the source, " + words, found.find() ? found.group() : "", "");
        }
    }

    /** Rule 11: a method ends with the brace that stands below its first word. */
    private void shortMethods(String[] lines) {
        int start = -1;
        String close = "";
        int methods = 0;
        for (int i = 0; i < lines.length; i++) {
            String line = lines[i];
            if (start < 0 && line.matches(" {4,8}[\\w\\[\\] ]*\\w\\([^()]*\\) \\{")) {
                start = i;
                close = line.substring(0, line.length() - line.stripLeading().length()) + "}";
                methods++;
            } else if (start >= 0 && line.equals(close)) {
                check.due("lines of the method at " + (start + 1) + " are too many", i - start + 1 > 60, false);
                start = -1;
            }
        }
        check.due("methods were found", methods > 30 && start < 0, true);
    }

    /** Calls share one room, so none of them makes an object: only fields and the constructor do. */
    private void madeInConstructorsAlone(String[] lines) {
        boolean inConstructor = false;
        for (int i = 0; i < lines.length; i++) {
            inConstructor = lines[i].equals("    public SwitchLevels() {") || inConstructor && !lines[i].equals("    }");
            boolean field = lines[i].matches(" {8}(private )?final \\w+\\[\\] \\w+ = new \\w+\\[\\w+\\];");
            boolean makes = lines[i].matches(".*\\bnew\\b.*");
            check.due("line " + (i + 1) + " makes an object", makes && !inConstructor && !field, false);
        }
    }

    private void classes() {
        Class<?>[] inside = SwitchLevels.class.getDeclaredClasses();
        check.due("more than twelve classes", inside.length + 1 > 12, false);
        members(SwitchLevels.class);
        for (Class<?> one : inside) {
            check.due(one + " has classes inside", one.getDeclaredClasses().length, 0);
            members(one);
        }
    }

    private void members(Class<?> one) {
        int fields = 0;
        for (Field f : one.getDeclaredFields()) {
            boolean isStatic = Modifier.isStatic(f.getModifiers());
            boolean constant = Modifier.isFinal(f.getModifiers()) && f.getType().isPrimitive();
            check.due(f + " is static and no constant", isStatic && !constant, false);
            fields += isStatic ? 0 : 1;
        }
        check.due(one + " has too many fields", fields > 20, false);
        for (Method m : one.getDeclaredMethods()) {
            check.due(m + " has too many parameters", m.getParameterCount() > 7, false);
        }
    }
}
