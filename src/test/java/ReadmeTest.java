import java.lang.reflect.InvocationTargetException;
import java.lang.reflect.Method;
import java.lang.reflect.Modifier;
import java.nio.charset.StandardCharsets;
import java.nio.file.DirectoryStream;
import java.nio.file.Files;
import java.nio.file.Path;
import java.util.NoSuchElementException;
import java.util.Set;
import java.util.TreeSet;
import java.util.regex.Matcher;
import java.util.regex.Pattern;

/**
 * Runs the calls that README.md shows, in their order, and compares the answers that it tells. Run from
 * the project's folder, as .ci/run does.
 */
final class ReadmeTest {
    private static final String NEW_OBJECT = "GateWalk g = new GateWalk();";
    private static final Pattern CALL = Pattern.compile("g\\.(\\w+)\\(([^()]*)\\);\\s+// (.*)");
    private static final Pattern ANSWER =
            Pattern.compile("(true|false|NONE|nothing|\\d+|throws NoSuchElementException)(?:[:,]? (.*))?");
    private static final Pattern TEST_ROW = Pattern.compile("\\| (\\w+Test) \\|.*");

    private static final Due DUE = new Due();
    private static final Set<String> SHOWN = new TreeSet<>();
    private static GateWalk g;

    public static void main(String[] args) throws Exception {
        String page = Files.readString(Path.of("README.md"));
        boolean inJava = false;
        for (String line : page.split("\n")) {
            if (line.startsWith("```")) {
                inJava = line.equals("```java");
            } else if (inJava) {
                runLine(line.trim());
            }
        }
        everyCallIsShown();
        everyTestIsNamed(page);
        DUE.finish();
    }

    private static void runLine(String line) throws Exception {
        if (line.equals(NEW_OBJECT)) {
            g = new GateWalk();
            return;
        }
        Matcher call = CALL.matcher(line);
        boolean isCall = call.matches();
        Matcher answer = ANSWER.matcher(isCall ? call.group(3) : "");
        boolean isRead = isCall && answer.matches() && g != null;
        DUE.is("a call with its answer: " + line, isRead, true);
        if (isRead) {
            SHOWN.add(call.group(1));
            String got = answerOf(methodNamed(call.group(1)), call.group(2).split(", *"));
            DUE.is(line + " (the class answered " + got + ")", got.equals(answer.group(1)), true);
            if (call.group(1).equals("feed")) {
                toldText(call.group(2).split(", *"), answer.group(2));
            }
        }
    }

    private static Method methodNamed(String name) {
        for (Method method : GateWalk.class.getDeclaredMethods()) {
            if (method.getName().equals(name) && Modifier.isPublic(method.getModifiers())) {
                return method;
            }
        }
        throw new IllegalStateException("README.md shows a call that is not there: " + name);
    }

    /** The answer as the page tells it. */
    private static String answerOf(Method method, String[] words) throws Exception {
        Class<?>[] types = method.getParameterTypes();
        Object[] values = new Object[types.length];
        for (int i = 0; i < types.length; i++) {
            values[i] = valueOf(words[i], types[i]);
        }
        try {
            Object got = method.invoke(g, values);
            boolean isNone = got instanceof Number && ((Number) got).longValue() == GateWalk.NONE;
            return got == null ? "nothing" : isNone ? "NONE" : got.toString();
        } catch (InvocationTargetException e) {
            boolean isDue = e.getCause().getClass() == NoSuchElementException.class;
            return isDue ? "throws NoSuchElementException" : e.getCause().toString();
        }
    }

    private static Object valueOf(String word, Class<?> type) {
        if (type == boolean.class) {
            return word.equals("true");
        }
        if (type == long.class) {
            return Long.decode(word.replace("L", ""));
        }
        return Long.decode(word).intValue();
    }

    /** Behind the answer of a feed stands the text that its numbers are. */
    private static void toldText(String[] words, String told) {
        StringBuilder text = new StringBuilder();
        for (String word : words) {
            int number = Long.decode(word).intValue();
            byte[] bytes = {(byte) (number >> 24), (byte) (number >> 16), (byte) (number >> 8), (byte) number};
            text.append(new String(bytes, StandardCharsets.ISO_8859_1).replace("\0", ""));
        }
        DUE.is("the text told is " + told + ", fed was " + text, text.toString().equals(told), true);
    }

    private static void everyCallIsShown() {
        for (Method method : GateWalk.class.getDeclaredMethods()) {
            if (Modifier.isPublic(method.getModifiers())) {
                DUE.is("README.md shows " + method.getName(), SHOWN.contains(method.getName()), true);
            }
        }
    }

    private static void everyTestIsNamed(String page) throws Exception {
        Set<String> named = new TreeSet<>();
        for (String line : page.split("\n")) {
            Matcher row = TEST_ROW.matcher(line);
            if (row.matches()) {
                named.add(row.group(1));
            }
        }
        Set<String> there = new TreeSet<>();
        try (DirectoryStream<Path> files = Files.newDirectoryStream(Path.of("src/test/java"), "*Test.java")) {
            for (Path file : files) {
                there.add(file.getFileName().toString().replace(".java", ""));
            }
        }
        DUE.is("tests named " + named + ", there are " + there, named.equals(there), true);
    }
}
