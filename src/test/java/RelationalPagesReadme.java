import java.lang.reflect.Method;
import java.lang.reflect.Modifier;
import java.net.URL;
import java.net.URLClassLoader;
import java.nio.file.Files;
import java.nio.file.Path;
import java.util.ArrayList;
import java.util.List;
import java.util.Set;
import java.util.TreeSet;
import java.util.regex.Matcher;
import java.util.regex.Pattern;
import javax.tools.ToolProvider;

/**
 * The calls that README.md shows, with the answers that it gives for them. They are taken from the
 * text itself and compiled as they stand there, so that the text and this test can't come apart.
 */
public final class RelationalPagesReadme extends Checks {
    private static final Pattern BLOCK = Pattern.compile("(?s)```java\n(.*?)```");
    private static final Pattern CALL = Pattern.compile(
            "(pages\\.(\\w+)\\([^;]*\\)); +// (-?\\d+|true|false|BAD|FULL)(?:: .+)?");
    private static final String MADE = "RelationalPages pages = new RelationalPages();";

    public static void main(String[] args) throws Exception {
        runAll(RelationalPagesReadme.class);
    }

    private static void theCallsShown() throws Exception {
        about("README.md", "Every call, with the answer that it gives here");
        List<Matcher> calls = callsShown();
        List<Object> answers = answersOf(calls);
        for (int i = 0; i < calls.size(); i++) {
            due(calls.get(i).group(1), String.valueOf(answers.get(i)), numberOf(calls.get(i).group(3)));
        }
    }

    private static void everyMethodIsShown() throws Exception {
        about("README.md", "Every call");
        Set<String> shown = new TreeSet<>();
        for (Matcher call : callsShown()) {
            shown.add(call.group(2));
        }
        Set<String> methods = new TreeSet<>();
        for (Method method : RelationalPages.class.getDeclaredMethods()) {
            if (Modifier.isPublic(method.getModifiers())) {
                methods.add(method.getName());
            }
        }
        due("methods shown", shown, methods);
    }

    /** A line that is no call with an answer would go untested, so that none but these is let through. */
    private static List<Matcher> callsShown() throws Exception {
        Matcher block = BLOCK.matcher(Files.readString(Path.of("README.md")));
        due("a Java text is shown", block.find(), true);
        String[] lines = block.group(1).split("\n");
        due("first line", lines[0], MADE);
        List<Matcher> calls = new ArrayList<>();
        for (int i = 1; i < lines.length; i++) {
            Matcher call = CALL.matcher(lines[i]);
            if (call.matches()) {
                calls.add(call);
            } else {
                due("no answer is shown: " + lines[i], lines[i].isEmpty() || lines[i].startsWith("// "), true);
            }
        }
        due("a second Java text is shown", block.find(), false);
        return calls;
    }

    private static String numberOf(String answer) {
        return answer.equals("BAD") ? "" + BAD : answer.equals("FULL") ? "" + FULL : answer;
    }

    private static List<Object> answersOf(List<Matcher> calls) throws Exception {
        StringBuilder text = new StringBuilder("public final class Shown {\n")
                .append("public static void run(java.util.List<Object> answers) {\n").append(MADE).append('\n');
        for (Matcher call : calls) {
            text.append("answers.add(").append(call.group(1)).append(");\n");
        }
        text.append("}\n}\n");
        Path classes = Path.of(RelationalPages.class.getProtectionDomain().getCodeSource().getLocation().toURI());
        Path made = Files.createTempDirectory(classes, "shown");
        Path source = Files.writeString(made.resolve("Shown.java"), text);
        int failed = ToolProvider.getSystemJavaCompiler().run(null, null, null,
                "--release", "17", "-cp", classes.toString(), "-d", made.toString(), source.toString());
        due("errors in compiling what is shown", failed, 0);
        List<Object> answers = new ArrayList<>();
        try (URLClassLoader loader = new URLClassLoader(new URL[] {made.toUri().toURL()})) {
            loader.loadClass("Shown").getMethod("run", List.class).invoke(null, answers);
        }
        return answers;
    }
}
