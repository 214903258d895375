import java.io.IOException;
import java.lang.reflect.Constructor;
import java.lang.reflect.Field;
import java.lang.reflect.Method;
import java.lang.reflect.Modifier;
import java.nio.file.Files;
import java.nio.file.Path;
import java.util.Map;
import java.util.Set;
import java.util.TreeMap;
import java.util.TreeSet;
import java.util.regex.Matcher;
import java.util.regex.Pattern;

/** The public face of the document, and those rules of LANGUAGE.md that can be read off the class or its text. */
public final class FaceTest {
    private static final int MOST_DEEP = 6;

    private static int wrong = 0;

    private static void check(boolean holds, String what) {
        if (!holds) {
            wrong++;
            System.out.println("does not hold: " + what);
        }
    }

    public static void main(String[] args) throws Exception {
        theMethods();
        theFields();
        theClass();
        String text = textWithoutComments();
        theWords(text);
        theCalls(text);
        System.out.println(wrong == 0 ? "the face is as due" : wrong + " faults in the face");
        if (wrong != 0) {
            System.exit(1);
        }
    }

    private static String signature(Method method) {
        StringBuilder text = new StringBuilder(method.getReturnType() + " " + method.getName() + "(");
        for (Class<?> type : method.getParameterTypes()) {
            text.append(type).append(' ');
        }
        return text.append(')').toString();
    }

    private static void theMethods() {
        Set<String> due = new TreeSet<>(Set.of("boolean add(int int int int )", "boolean guard(int int int )",
                "int define(int )", "int run(int int int )", "int result()", "int begun(int int )",
                "int taken(int int int )", "int thrown(int int )", "int counters(int )", "int stretches(int )",
                "int stretch(int int int )", "int line(int int )", "int reset(int )", "boolean keep(int )",
                "int merge(int )"));
        Set<String> open = new TreeSet<>();
        Set<String> openNames = new TreeSet<>();
        Set<String> hiddenNames = new TreeSet<>();
        for (Method method : CoverageDesk.class.getDeclaredMethods()) {
            check(method.getParameterCount() <= 7, "at most seven parameters: " + method);
            if (Modifier.isPrivate(method.getModifiers())) {
                hiddenNames.add(method.getName());
            } else {
                check(method.getModifiers() == Modifier.PUBLIC, "public and no more: " + method);
                open.add(signature(method));
                openNames.add(method.getName());
            }
        }
        check(open.equals(due), "the methods are those of the document, but are " + open);
        hiddenNames.retainAll(openNames);
        check(hiddenNames.isEmpty(), "no private method bears a public one's name, but " + hiddenNames);
    }

    private static void theFields() throws Exception {
        Set<String> open = new TreeSet<>();
        int beside = 0;
        for (Field field : CoverageDesk.class.getDeclaredFields()) {
            int kind = field.getModifiers();
            Class<?> type = field.getType();
            if (Modifier.isStatic(kind)) {
                check(Modifier.isFinal(kind) && (type == int.class || type == long.class), "a constant: " + field);
            } else {
                beside++;
                check(Modifier.isPrivate(kind), "private: " + field);
            }
            if (!Modifier.isPrivate(kind)) {
                check(Modifier.isPublic(kind) && type == int.class, "a public int: " + field);
                open.add(field.getName() + " " + field.getInt(null));
            }
        }
        check(open.equals(Set.of("OK 0", "THROWN 1", "LONG 2", "BAD -1")), "the constants, but they are " + open);
        check(beside <= 40, "some forty fields, but " + beside);
    }

    private static void theClass() {
        Class<?> desk = CoverageDesk.class;
        Constructor<?>[] makers = desk.getDeclaredConstructors();
        check(desk.getModifiers() == (Modifier.PUBLIC | Modifier.FINAL), "the class is public and final");
        check(desk.getPackageName().isEmpty(), "the class has no package");
        check(desk.getSuperclass() == Object.class && desk.getInterfaces().length == 0, "it extends nothing");
        check(desk.getDeclaredClasses().length == 0, "there is no nested class");
        check(makers.length == 1 && makers[0].getModifiers() == Modifier.PUBLIC
                && makers[0].getParameterCount() == 0, "there is one constructor, public and without parameters");
    }

    private static String textWithoutComments() throws IOException {
        String text = Files.readString(Path.of("src/main/java/CoverageDesk.java"));
        return text.replaceAll("(?s)/\\*.*?\\*/", " ").replaceAll("//[^\n]*", " ");
    }

    private static void theWords(String text) {
        Matcher matcher = Pattern.compile("\\b(float|double|String|Math|Integer|Long|System|Arrays|Object|import|package"
                + "|null|throw|throws|try|catch|finally|synchronized|assert|instanceof|interface|enum|record|abstract"
                + "|protected|native|transient|volatile|var|this|super)\\b|->|::|\"|'|\\[\\s*\\]\\s*\\[").matcher(text);
        while (matcher.find()) {
            check(false, "the text is without " + matcher.group());
        }
        Matcher made = Pattern.compile("(?m)^(.*)\\bnew\\b(.*)$").matcher(text);
        while (made.find()) {
            check(made.group().matches("    private final (int|long|boolean)\\[\\] \\w+ = new \\1\\[[A-Z_]+\\];"),
                    "made in a field's initialiser with a constant length: " + made.group());
        }
        for (String body : text.split("\n    }\n")) {
            int start = body.lastIndexOf("\n    p");
            check(start < 0 || body.substring(start + 1).lines().count() <= 60, "a method is short: " + body);
        }
    }

    private static void theCalls(String text) {
        Map<String, Set<String>> calls = new TreeMap<>();
        Matcher method = Pattern.compile("(?ms)^    (?:public|private) \\w+ (\\w+)\\([^)]*\\) \\{(.*?)^    \\}").matcher(text);
        while (method.find()) {
            Set<String> called = calls.computeIfAbsent(method.group(1), name -> new TreeSet<>());
            Matcher call = Pattern.compile("(\\w+)\\(").matcher(method.group(2));
            while (call.find()) {
                called.add(call.group(1));
                String arguments = argumentsFrom(method.group(2), call.end());
                check(!arguments.matches("(?s).*\\w\\(.*"), "no call inside the arguments of " + call.group(1));
            }
        }
        check(calls.size() == CoverageDesk.class.getDeclaredMethods().length, "every method's text is found");
        // Recursion would go deeper than any bound, so this is a check of both.
        for (String name : calls.keySet()) {
            check(!reaches(name, MOST_DEEP + 1, calls), "calls go at most six deep from " + name);
        }
    }

    private static String argumentsFrom(String text, int start) {
        int end = start;
        for (int open = 1; open > 0; end++) {
            open += text.charAt(end) == '(' ? 1 : text.charAt(end) == ')' ? -1 : 0;
        }
        return text.substring(start, end);
    }

    /** Whether a row of that many methods, each called by the one before it, begins with this one. */
    private static boolean reaches(String name, int depth, Map<String, Set<String>> calls) {
        return depth == 1 || calls.get(name).stream().anyMatch(next -> reaches(next, depth - 1, calls));
    }
}
