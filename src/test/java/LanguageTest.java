import java.lang.reflect.Field;
import java.lang.reflect.Method;
import java.lang.reflect.Modifier;
import java.nio.file.Files;
import java.nio.file.Path;
import java.util.Arrays;
import java.util.List;
import java.util.Set;
import java.util.regex.Matcher;
import java.util.regex.Pattern;
import java.util.stream.Collectors;

/**
 * Compares the class with those rules of LANGUAGE.md that can be seen from its members or from its text. Where the class
 * needs less than a rule allows, only that is let through here; a class that comes to need more may widen it.
 */
final class LanguageTest {
    private static final String[] FORBIDDEN = {"->", "::", "\\bcatch\\b", "\\bfinally\\b", "\\bsynchronized\\b",
        "\\bassert\\b", "\\bvar\\b", "\\binstanceof\\b", "\"\\s*\\+", "\\+\\s*\"", "\\bstatic \\{", "Exact\\b",
        "\\bpackage\\b", "\\.(equals|hashCode|toString|getClass)\\b", "[^\\x00-\\x7f]"};
    private static final List<String> LIBRARY = List.of("Math.max", "Math.min", "System.arraycopy");
    private static final List<String> THROWN = List.of("IllegalStateException", "IllegalArgumentException",
            "IndexOutOfBoundsException", "ArithmeticException", "UnsupportedOperationException",
            "NoSuchElementException");
    private static final Set<Class<?>> CONSTANTS = Set.of(int.class, long.class, boolean.class, char.class,
            String.class);
    private static final int MOST_CLASSES = 12;
    private static final int MOST_FIELDS = 20;
    private static final int MOST_PARAMETERS = 7;
    private static final int MOST_LINES_OF_A_METHOD = 60;

    private LanguageTest() {
    }

    static void run() throws Exception {
        String text = Files.readString(Path.of("src/main/java/SheepdogTrial.java"));
        String code = text.replaceAll("/\\*(?s:.*?)\\*/|//.*", "");
        nothingForbiddenIsWritten(code);
        onlyTheListedLibraryIsUsed(code);
        exceptionsAreThrownAsListed(code);
        Class<?>[] inner = SheepdogTrial.class.getDeclaredClasses();
        Check.isTrue("rule 11: some twelve classes", inner.length + 1 <= MOST_CLASSES);
        int methods = SheepdogTrial.class.getDeclaredMethods().length;
        membersKeepToTheRules(SheepdogTrial.class);
        for (Class<?> type : inner) {
            methods += type.getDeclaredMethods().length;
            innerClassIsHiddenAndStatic(type);
            membersKeepToTheRules(type);
        }
        methodsAreShort(code, methods);
    }

    private static void nothingForbiddenIsWritten(String code) {
        for (String pattern : FORBIDDEN) {
            Check.isFalse("the source holds " + pattern, Pattern.compile(pattern).matcher(code).find());
        }
        for (String name : found(code, "import (\\S+);")) {
            Check.equal("rule 4: an import", "java.util.NoSuchElementException", name);
        }
    }

    private static void onlyTheListedLibraryIsUsed(String code) {
        for (String call : found(code, "\\b([A-Z][a-z]\\w*\\.[a-z]\\w*)\\(")) {
            Check.isTrue("rule 4: the call " + call, LIBRARY.contains(call));
        }
    }

    private static void exceptionsAreThrownAsListed(String code) {
        List<String> thrown = found(code, "\\bthrow new (\\w+)\\((?:\"[^\"]*\")?\\);");
        Check.equal("rule 6: every throw is of the listed form", found(code, "\\b(throw)\\b").size(), thrown.size());
        for (String name : thrown) {
            Check.isTrue("rule 6: the exception " + name, THROWN.contains(name));
        }
    }

    private static List<String> found(String code, String pattern) {
        Matcher matcher = Pattern.compile(pattern).matcher(code);
        return matcher.results().map(result -> result.group(1)).toList();
    }

    // A method ends with a brace that stands as far to the right as its begin.
    private static void methodsAreShort(String code, int due) {
        Matcher method = Pattern.compile("^( {4}| {8})(?!private static final class)\\w[^;={}]*\\{\\n"
                + "(?:(?!\\1\\}).*\\n)*\\1\\}", Pattern.MULTILINE).matcher(code);
        int methods = 0;
        while (method.find()) {
            methods++;
            long lines = method.group().lines().count();
            Check.isTrue("rule 11: a method of " + lines + " lines", lines <= MOST_LINES_OF_A_METHOD);
        }
        Check.isTrue("every method is found in the text", methods >= due);
    }

    private static void innerClassIsHiddenAndStatic(Class<?> type) {
        int modifiers = type.getModifiers();
        Check.isFalse("rule 1: " + type + " is seen from outside",
                Modifier.isPublic(modifiers) || Modifier.isProtected(modifiers));
        Check.isTrue("rule 1: " + type + " is static", Modifier.isStatic(modifiers));
    }

    private static void membersKeepToTheRules(Class<?> type) {
        Set<String> face = Arrays.stream(SheepdogTrial.class.getMethods()).map(Method::getName)
                .collect(Collectors.toSet());
        for (Method method : type.getDeclaredMethods()) {
            Check.isTrue("rule 11: parameters of " + method, method.getParameterCount() <= MOST_PARAMETERS);
            Check.isFalse("rule 1: the name of " + method,
                    Modifier.isPrivate(method.getModifiers()) && face.contains(method.getName()));
        }
        int fields = 0;
        for (Field field : type.getDeclaredFields()) {
            if (!Modifier.isStatic(field.getModifiers())) {
                fields++;
                continue;
            }
            Check.isTrue("rule 5: " + field + " is final", Modifier.isFinal(field.getModifiers()));
            Check.isTrue("rule 5: the type of " + field, CONSTANTS.contains(field.getType()));
        }
        Check.isTrue("rule 11: fields of " + type, fields <= MOST_FIELDS);
    }
}
