import java.lang.reflect.Method;
import java.lang.reflect.Modifier;
import java.net.URI;
import java.nio.file.Files;
import java.nio.file.Path;
import java.util.ArrayList;
import java.util.List;
import java.util.regex.Matcher;
import java.util.regex.Pattern;
import javax.tools.JavaCompiler;
import javax.tools.JavaFileObject;
import javax.tools.SimpleJavaFileObject;
import javax.tools.ToolProvider;

/**
 * What README.md shows of the use of the class: its Java lines are compiled and run as one program, in which a comment
 * "answers .." or "throws .." behind a call has become a check.
 */
final class ReadmeTest {
    private static final String NAME = "ReadmeProgram";
    private static final Pattern BLOCK = Pattern.compile("^```java\\n(.*?)^```$", Pattern.DOTALL | Pattern.MULTILINE);
    private static final Pattern CHECKED = Pattern.compile("(\\S.*);\\s*// (answers|throws) (\"[^\"]*\"|[^:]+)(: .+)?");

    private ReadmeTest() {
    }

    static void run() throws Exception {
        String readme = Files.readString(Path.of("README.md"));
        everyCallIsShownWithAnAnswer(readme);
        answersAreThoseOfTheClass(readme);
        testsAreRunAsItSays(readme);
    }

    private static void everyCallIsShownWithAnAnswer(String readme) {
        List<String> shown = new ArrayList<>();
        for (String line : readme.split("\n")) {
            Matcher checked = CHECKED.matcher(line);
            if (checked.matches() && checked.group(2).equals("answers")) {
                shown.add(checked.group(1));
            }
        }
        for (Method method : SheepdogTrial.class.getDeclaredMethods()) {
            if (Modifier.isPublic(method.getModifiers())) {
                String call = "." + method.getName() + "(";
                Check.isTrue("README.md shows " + call, shown.stream().anyMatch(line -> line.contains(call)));
            }
        }
    }

    private static void answersAreThoseOfTheClass(String readme) throws Exception {
        StringBuilder statements = new StringBuilder();
        StringBuilder methods = new StringBuilder();
        int comments = 0;
        Matcher block = BLOCK.matcher(readme);
        while (block.find()) {
            if (block.group(1).startsWith("static ")) {
                methods.append(block.group(1));
                continue;
            }
            for (String line : block.group(1).split("\n")) {
                statements.append(statementOf(line)).append('\n');
                comments += line.contains("//") ? 1 : 0;
            }
        }
        Check.isTrue("README.md shows answers", comments > 0);
        Check.isTrue("the Java of README.md can be compiled",
                compile("final class " + NAME + " {\nstatic void run() {\n" + statements + "}\n" + methods + "}\n"));
        int before = Check.checks;
        Class.forName(NAME).getDeclaredMethod("run").invoke(null);
        Check.equal("comments of README.md that are checked", comments, Check.checks - before);
    }

    // A comment of another form stays a comment, which the count of checks tells.
    private static String statementOf(String line) {
        Matcher checked = CHECKED.matcher(line);
        if (!checked.matches()) {
            return line;
        }
        String call = checked.group(1);
        String due = checked.group(2).equals("answers") ? checked.group(3) : quoted(checked.group(3));
        return "Check.equal(" + quoted("README.md: " + call) + ", " + due + ", Check.outcome(() -> " + call + "));";
    }

    private static String quoted(String text) {
        return "\"" + text.replace("\"", "\\\"") + "\"";
    }

    private static boolean compile(String source) throws Exception {
        Path classes = Path.of(Check.class.getProtectionDomain().getCodeSource().getLocation().toURI());
        List<String> options = List.of("-d", classes.toString(), "-cp", classes.toString());
        JavaFileObject file = new SimpleJavaFileObject(URI.create("string:///" + NAME + ".java"),
                JavaFileObject.Kind.SOURCE) {
            @Override
            public CharSequence getCharContent(boolean ignoreEncodingErrors) {
                return source;
            }
        };
        JavaCompiler compiler = ToolProvider.getSystemJavaCompiler();
        return compiler.getTask(null, null, null, options, null, List.of(file)).call();
    }

    private static void testsAreRunAsItSays(String readme) {
        Check.isTrue("README.md tells how to run the tests", readme.contains("```sh\n.ci/run\n```"));
        Check.isTrue(".ci/run can be run", Files.isExecutable(Path.of(".ci/run")));
    }
}
