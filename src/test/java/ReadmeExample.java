import java.io.IOException;
import java.lang.reflect.Method;
import java.lang.reflect.Modifier;
import java.nio.file.Files;
import java.nio.file.Path;
import java.util.ArrayList;
import java.util.List;
import java.util.regex.Matcher;
import java.util.regex.Pattern;

/**
 * Prints a test, ReadmeCalls, made of the Java blocks of README.md, which together are one program.
 * Behind each call README.md says its answer, "// answer" or "// answer: remark"; the test compares
 * it with the class's. What is no such call stops the run, so that no call goes unseen.
 */
public final class ReadmeExample {
    private static final Pattern MAKES_OBJECT = Pattern.compile("NameHashBuilder \\w+ = new NameHashBuilder\\(.*\\);");
    private static final Pattern CALL = Pattern.compile("(\\w+\\.\\w+\\([^;\"]*\\)); +// ([\\w.-]+)(: .*)?");

    public static void main(String[] args) throws IOException {
        List<String> example = javaLines(Files.readAllLines(Path.of("README.md")));
        dueWholeFace(String.join("\n", example));
        System.out.println("public final class ReadmeCalls {");
        System.out.println("    public static void main(String[] args) {");
        System.out.println("        Check check = new Check();");
        for (String line : example) {
            System.out.println("        " + statement(line));
        }
        System.out.println("        check.end();");
        System.out.println("    }");
        System.out.println("}");
    }

    private static List<String> javaLines(List<String> readme) {
        List<String> lines = new ArrayList<>();
        boolean inside = false;
        for (String line : readme) {
            if (line.startsWith("```")) {
                inside = line.equals("```java");
            } else if (inside) {
                lines.add(line);
            }
        }
        return lines;
    }

    private static String statement(String line) {
        if (MAKES_OBJECT.matcher(line).matches()) {
            return line;
        }
        Matcher call = CALL.matcher(line);
        if (!call.matches()) {
            throw new IllegalArgumentException("README.md: no call with its answer: " + line);
        }
        return "check.due(\"README.md: " + call.group(1) + "\", " + call.group(1) + ", " + call.group(2) + ");";
    }

    /** The example is to show every method of the class. */
    private static void dueWholeFace(String example) {
        for (Method method : NameHashBuilder.class.getDeclaredMethods()) {
            boolean shown = example.contains("." + method.getName() + "(");
            if (Modifier.isPublic(method.getModifiers()) && !shown) {
                throw new IllegalArgumentException("README.md: no call of " + method.getName());
            }
        }
    }
}
