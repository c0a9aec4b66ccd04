import java.io.IOException;
import java.lang.reflect.Field;
import java.lang.reflect.Method;
import java.lang.reflect.Modifier;
import java.nio.file.Files;
import java.nio.file.Path;
import java.util.ArrayList;
import java.util.List;
import java.util.regex.Matcher;
import java.util.regex.Pattern;

/** The rules of LANGUAGE.md that show in the text of the class or in what it is compiled to, by their numbers. */
final class LanguageTest {
    private static final List<String> IMPORTS = List.of("java.util.Arrays", "java.util.ArrayList", "java.util.List",
            "java.util.Iterator", "java.util.NoSuchElementException");
    private static final List<String> THROWN = List.of("IllegalStateException", "IllegalArgumentException",
            "IndexOutOfBoundsException", "ArithmeticException", "UnsupportedOperationException",
            "NoSuchElementException", "RuntimeException");
    private static final List<String> CONSTANTS = List.of("int", "long", "boolean", "char", "java.lang.String", "[I",
            "[J", "[C", "[B");

    /** Each with the rule that leaves it out. */
    private static final String[][] LEFT_OUT = {
        {"2 a lambda", "(?m)^(?!\\s*(case|default)\\b).*->"},
        {"2 a method reference", "::"},
        {"4 another part of the library", "\\b(java|javax|jdk|sun)\\.(?!util\\.)"},
        {"4 a call of the library that ends in Exact", "Exact\\s*\\("},
        {"4 the system but for arraycopy", "\\bSystem\\.(?!arraycopy)"},
        {"5 an initialiser block", "\\bstatic\\s*\\{"},
        {"6 finally", "\\bfinally\\b"},
        {"6 try with resources", "\\btry\\s*\\("},
        {"6 synchronized", "\\bsynchronized\\b"},
        {"6 assert", "\\bassert\\b"},
        {"6 an exception class of its own", "extends\\s+\\w*(Exception|Error|Throwable)\\b"},
        {"6 what the machine throws is caught", "catch\\s*\\(\\s*(final\\s+)?(Array|NullPointer|ClassCast|Negative)"},
        {"6 what is above the machine's exceptions is caught", "catch\\s*\\([^)]*\\b(Throwable|Error|Exception|RuntimeException)\\b"},
        {"6 equals, hashCode or toString of its own", "\\b(boolean equals|int hashCode|String toString)\\s*\\("},
        {"10 texts joined by +", "\"\\s*\\+|\\+\\s*\""},
        {"13 a clock, chance or a thread", "\\b(Random|Thread|Instant|Runtime|Process)\\b"},
    };

    private LanguageTest() {
    }

    public static void main(String[] args) throws IOException {
        String source = Files.readString(Path.of("src/main/java/WhosaidDesk.java"));
        String code = withoutComments(source);
        signsAreNarrow(source);
        importsAreListed(code);
        nothingLeftOutStands(code);
        exceptionsHaveWrittenTexts(code);
        methodsAreShort(code);
        classesAreSmall();
        Check.end();
    }

    private static String withoutComments(String source) {
        return source.replaceAll("(?s)/\\*.*?\\*/", "").replaceAll("//[^\n]*", "");
    }

    private static void signsAreNarrow(String source) {
        for (int place = 0; place < source.length(); place++) {
            char sign = source.charAt(place);
            if (sign != '\n' && (sign < ' ' || sign > '~')) {
                Check.same("4 the sign " + (int) sign + " at " + place, true, false);
            }
        }
        Check.same("1 there is no package line", false, source.startsWith("package"));
    }

    private static void importsAreListed(String code) {
        Matcher line = Pattern.compile("import\\s+([^;]+);").matcher(code);
        while (line.find()) {
            Check.same("4 " + line.group(1) + " is listed", true, IMPORTS.contains(line.group(1)));
        }
    }

    private static void nothingLeftOutStands(String code) {
        for (String[] each : LEFT_OUT) {
            Check.same(each[0], false, Pattern.compile(each[1]).matcher(code).find());
        }
    }

    private static void exceptionsHaveWrittenTexts(String code) {
        Matcher thrown = Pattern.compile("\\bthrow\\b([^;]*);").matcher(code);
        Pattern plain = Pattern.compile(" new (\\w+)\\((\"[^\"]*\")?\\)");
        while (thrown.find()) {
            Matcher made = plain.matcher(thrown.group(1));
            Check.same("6" + thrown.group(1), true, made.matches() && THROWN.contains(made.group(1)));
        }
    }

    /** Methods begin at the first or second step of indentation and end at the same one. */
    private static void methodsAreShort(String code) {
        int methods = 0;
        String indent = null;
        int begun = 0;
        String[] lines = code.split("\n");
        for (int number = 0; number < lines.length; number++) {
            Matcher head = Pattern.compile("( {4}| {8})[a-z][\\w\\[\\] ]* ?\\w+\\(.*").matcher(lines[number]);
            if (indent == null && head.matches() && !lines[number].endsWith(";")) {
                indent = head.group(1);
                begun = number;
                methods++;
            } else if (indent != null && lines[number].equals(indent + "}")) {
                Check.same("11 the method at" + lines[begun], true, number - begun < 60);
                indent = null;
            }
        }
        Check.same("11 methods were found", true, methods > 100);
    }

    private static void classesAreSmall() {
        List<Class<?>> classes = new ArrayList<>(List.of(WhosaidDesk.class.getDeclaredClasses()));
        classes.add(WhosaidDesk.class);
        Check.same("11 at most twelve classes", true, classes.size() <= 12);
        for (Class<?> each : classes) {
            int fields = 0;
            for (Field field : each.getDeclaredFields()) {
                if (Modifier.isStatic(field.getModifiers())) {
                    Check.same("5 " + field + " is final", true, Modifier.isFinal(field.getModifiers()));
                    Check.same("5 " + field, true, isConstant(field.getType()));
                } else {
                    fields++;
                }
            }
            Check.same("11 at most twenty fields in " + each.getName(), true, fields <= 20);
            for (Method method : each.getDeclaredMethods()) {
                Check.same("11 at most seven parameters of " + method, true, method.getParameterCount() <= 7);
            }
        }
    }

    private static boolean isConstant(Class<?> type) {
        return CONSTANTS.contains(type.getName()) || type.isEnum()
                || type.isArray() && type.getComponentType().isEnum();
    }
}
