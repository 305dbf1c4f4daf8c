import java.lang.reflect.Method;
import java.lang.reflect.Modifier;
import java.nio.file.DirectoryStream;
import java.nio.file.Files;
import java.nio.file.Path;
import java.util.regex.Matcher;
import java.util.regex.Pattern;

/**
 * What README.md says holds: its example is run call by call, each line's answer standing ahead of the colon
 * of its comment; every call of the face has a row of its own, and every test of the project is named.
 */
public final class ReadmeTest {
    private static final Pattern CALL = Pattern.compile("bench\\.(\\w+)\\(([^)]*)\\);\\s*// (-?\\w+): .+");
    private static int failures = 0;

    private static void fail(String what) {
        failures++;
        System.out.println(what);
    }

    private static Method methodOf(String name) {
        for (Method method : LoopBoard.class.getDeclaredMethods()) {
            if (method.getName().equals(name) && Modifier.isPublic(method.getModifiers())) {
                return method;
            }
        }
        return null;
    }

    private static Object valueOf(String text, Class<?> type) {
        if (type == boolean.class) {
            return Boolean.valueOf(text);
        }
        long number = text.equals("LoopBoard.NONE") ? LoopBoard.NONE : Long.parseLong(text);
        return type == long.class ? (Object) number : (Object) Math.toIntExact(number);
    }

    private static void checkCall(LoopBoard bench, String line) throws Exception {
        Matcher told = CALL.matcher(line);
        if (!told.matches()) {
            fail("no call with its answer: " + line);
            return;
        }
        Method method = methodOf(told.group(1));
        String[] texts = told.group(2).isEmpty() ? new String[0] : told.group(2).split(", ");
        if (method == null || method.getParameterCount() != texts.length) {
            fail("no such call: " + line);
            return;
        }
        Object[] values = new Object[texts.length];
        for (int at = 0; at < texts.length; at++) {
            values[at] = valueOf(texts[at], method.getParameterTypes()[at]);
        }
        String answer = String.valueOf(method.invoke(bench, values));
        if (!answer.equals(told.group(3))) {
            fail("the answer is " + answer + ": " + line);
        }
    }

    private static void checkExample(String readme) throws Exception {
        int begin = readme.indexOf("```java\n");
        int end = readme.indexOf("```", begin + 3);
        if (begin < 0 || end < 0) {
            fail("README.md has no example");
            return;
        }
        LoopBoard bench = new LoopBoard();
        String[] lines = readme.substring(begin, end).split("\n");
        for (int line = 1; line < lines.length; line++) {
            if (!lines[line].isEmpty() && !lines[line].startsWith("LoopBoard bench = new LoopBoard();")) {
                checkCall(bench, lines[line]);
            }
        }
    }

    private static void checkNames(String readme) throws Exception {
        for (Method method : LoopBoard.class.getDeclaredMethods()) {
            boolean isCall = Modifier.isPublic(method.getModifiers());
            if (isCall && !readme.contains("| `" + method.getName() + "(")) {
                fail("README.md has no row for " + method.getName());
            }
            if (isCall && !readme.contains("bench." + method.getName() + "(")) {
                fail("README.md has no example of " + method.getName());
            }
        }
        try (DirectoryStream<Path> tests = Files.newDirectoryStream(Path.of("src/test/java"), "*.java")) {
            for (Path test : tests) {
                String name = test.getFileName().toString().replace(".java", "");
                if (!readme.contains("`" + name + "`")) {
                    fail("README.md does not name " + name);
                }
            }
        }
        for (String way : new String[] {".ci/run", "../shared/tests", "src/main/java/LoopBoard.java"}) {
            if (!readme.contains(way)) {
                fail("README.md does not name " + way);
            }
        }
    }

    public static void main(String[] args) throws Exception {
        String readme = Files.readString(Path.of("README.md"));
        checkExample(readme);
        checkNames(readme);
        System.out.println(failures == 0 ? "README.md is as due" : failures + " faults");
        if (failures != 0) {
            System.exit(1);
        }
    }
}
