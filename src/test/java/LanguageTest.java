import java.lang.reflect.Constructor;
import java.lang.reflect.Field;
import java.lang.reflect.Method;
import java.lang.reflect.Modifier;
import java.nio.file.Files;
import java.nio.file.Path;
import java.util.ArrayList;
import java.util.Arrays;
import java.util.List;
import java.util.Set;
import java.util.TreeSet;
import java.util.regex.Matcher;
import java.util.regex.Pattern;

/** The face that the document tells, and those rules of LANGUAGE.md that can be read off class and source. */
public final class LanguageTest {
    private static final Set<String> FACE = new TreeSet<>(Arrays.asList(
        "boolean board(int, int, boolean)", "boolean allow(int, int, int)", "int allowed(int, int)",
        "long count(int)", "long weigh(int)", "int loopsOf(int)", "long having(int, int, int)",
        "int put(int, int, int)", "int tile(int, int)", "int loops()", "int wrong()",
        "boolean find(int, long)", "long rank(boolean)", "int length(int, int, int)", "int longest()",
        "int same(int, int, int, int, int, int)"));
    private static final String[] FORBIDDEN = {
        "throw", "throws", "try", "catch", "finally", "synchronized", "assert", "native", "volatile", "->", "::",
        "Exact", "Random", "nanoTime", "currentTimeMillis", "Thread", "import", "package", "double", "float",
        "hashCode", "toString", "protected"
    };

    private static final Set<String> OWN = new TreeSet<>(Arrays.asList(
        "LoopBoard", "Board", "Front", "Moves", "Ways", "Sheet"));
    private static final Set<String> LIBRARY = new TreeSet<>(Arrays.asList(
        "Math.min", "Math.max", "Integer.bitCount", "System.arraycopy"));
    private static final Set<String> ROWS = new TreeSet<>(Arrays.asList("int", "long", "boolean"));

    private static int failures = 0;

    private static void fail(String what) {
        failures++;
        System.out.println(what);
    }

    private static String told(Method method) {
        List<String> types = new ArrayList<>();
        for (Class<?> type : method.getParameterTypes()) {
            types.add(type.getSimpleName());
        }
        return method.getReturnType().getSimpleName() + " " + method.getName() + "(" + String.join(", ", types) + ")";
    }

    private static void checkFace() {
        Set<String> found = new TreeSet<>();
        for (Method method : LoopBoard.class.getDeclaredMethods()) {
            if (Modifier.isPublic(method.getModifiers())) {
                found.add(told(method));
            } else if (!Modifier.isPrivate(method.getModifiers())) {
                fail("neither public nor private: " + method);
            }
        }
        if (!found.equals(FACE)) {
            fail("the face is " + found + ", due is " + FACE);
        }
        for (Field field : LoopBoard.class.getDeclaredFields()) {
            boolean isNone = field.getName().equals("NONE");
            boolean asDue = isNone ? Modifier.isPublic(field.getModifiers()) : Modifier.isPrivate(field.getModifiers());
            if (!asDue) {
                fail("not as private or public as due: " + field);
            }
        }
        for (Constructor<?> constructor : LoopBoard.class.getDeclaredConstructors()) {
            if (!Modifier.isPublic(constructor.getModifiers()) || constructor.getParameterCount() != 0) {
                fail("not the constructor that is due: " + constructor);
            }
        }
        int shape = LoopBoard.class.getModifiers();
        if (!Modifier.isPublic(shape) || !Modifier.isFinal(shape)) {
            fail("the class is not public and final");
        }
    }

    private static void checkInner() {
        Set<String> names = new TreeSet<>();
        for (String call : FACE) {
            names.add(call.substring(call.indexOf(' ') + 1, call.indexOf('(')));
        }
        List<Class<?>> classes = new ArrayList<>(Arrays.asList(LoopBoard.class.getDeclaredClasses()));
        for (Class<?> inner : classes) {
            if (!Modifier.isStatic(inner.getModifiers()) || Modifier.isPublic(inner.getModifiers())) {
                fail("not static, or public: " + inner);
            }
        }
        classes.add(LoopBoard.class);
        for (Class<?> each : classes) {
            int fields = 0;
            for (Method method : each.getDeclaredMethods()) {
                if (method.getParameterCount() > 7) {
                    fail("more than seven parameters: " + method);
                }
                if (names.contains(method.getName()) && !Modifier.isPublic(method.getModifiers())) {
                    fail("has the name of a public one: " + method);
                }
            }
            for (Field field : each.getDeclaredFields()) {
                fields += Modifier.isStatic(field.getModifiers()) ? 0 : 1;
                if (Modifier.isStatic(field.getModifiers()) && !Modifier.isFinal(field.getModifiers())) {
                    fail("static and not final: " + field);
                }
            }
            if (fields > 20) {
                fail("more than twenty fields: " + each);
            }
        }
        if (classes.size() > 12) {
            fail("more than twelve classes");
        }
    }

    /** Of rule 4 the class uses these alone; what it makes are its own objects, and rows of numbers. */
    private static void checkLibrary(String code) {
        Matcher calls = Pattern.compile("(?<![\\w.])([A-Z]\\w*)\\.([a-z]\\w*)\\(").matcher(code);
        while (calls.find()) {
            if (!OWN.contains(calls.group(1)) && !LIBRARY.contains(calls.group(1) + "." + calls.group(2))) {
                fail("not in the library: " + calls.group());
            }
        }
        Matcher made = Pattern.compile("\\bnew (\\w+)\\s*([\\[(])").matcher(code);
        while (made.find()) {
            boolean row = made.group(2).equals("[");
            if (row ? !ROWS.contains(made.group(1)) : !OWN.contains(made.group(1))) {
                fail("not made here: " + made.group());
            }
        }
    }

    /** Rule 5: a static row is written out, and nothing is written into it later. */
    private static void checkStatics(String code) {
        if (Pattern.compile("\\bstatic\\s*\\{").matcher(code).find()) {
            fail("a static initialiser block");
        }
        Matcher rows = Pattern.compile("static final \\w+\\[\\] (\\w+) = (.)").matcher(code);
        while (rows.find()) {
            String name = rows.group(1);
            if (!rows.group(2).equals("{")) {
                fail("not written out: " + name);
            }
            Pattern written = Pattern.compile("\\b" + name + "\\[[^\\]]*\\]\\s*([-+*/|&^]|<<|>>)?=(?!=)");
            if (written.matcher(code).find()) {
                fail("written into: " + name);
            }
        }
    }

    private static void checkSource() throws Exception {
        String source = Files.readString(Path.of("src/main/java/LoopBoard.java"));
        String code = source.replaceAll("(?s)/\\*.*?\\*/", "").replaceAll("//[^\n]*", "");
        checkLibrary(code);
        checkStatics(code);
        for (String word : FORBIDDEN) {
            String ahead = word.equals("Exact") ? "" : "\\b";
            String pattern = Character.isLetter(word.charAt(0)) ? ahead + word + "\\b" : Pattern.quote(word);
            Matcher matcher = Pattern.compile(pattern).matcher(code);
            if (matcher.find()) {
                fail("not in the language: " + matcher.group());
            }
        }
        int begin = 0;
        String[] lines = source.split("\n");
        for (int line = 0; line < lines.length; line++) {
            if (lines[line].matches(" {4}( {4})?\\S.*\\) \\{")) {
                begin = line;
            }
            if (lines[line].matches(" {4}( {4})?\\}") && line - begin > 60) {
                // A class ends with such a line too, but a method of it ended shortly ahead.
                fail("longer than sixty lines, from line " + (begin + 1));
            }
        }
    }

    public static void main(String[] args) throws Exception {
        checkFace();
        checkInner();
        checkSource();
        System.out.println(failures == 0 ? "the face and the language are as due" : failures + " faults");
        if (failures != 0) {
            System.exit(1);
        }
    }
}
