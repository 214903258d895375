import java.io.IOException;
import java.lang.reflect.Method;
import java.lang.reflect.Modifier;
import java.nio.file.Files;
import java.nio.file.Path;
import java.util.Arrays;
import java.util.Map;
import java.util.Set;
import java.util.TreeSet;
import java.util.regex.Matcher;
import java.util.regex.Pattern;

/** Makes the calls that README.md shows, on one object, and compares the answers with those that its comments tell. */
public final class ReadmeTest extends Checks {
    private static final Pattern BLOCK = Pattern.compile("(?s)```java\n(.*?)```");
    private static final Pattern CALL_SHOWN = Pattern.compile("desk\\.(\\w+)\\(([-\\d, ]*)\\); +// (-?\\w+).*");
    private static final Map<String, Integer> NAMED = Map.of("OK", OK, "THROWN", THROWN, "LONG", LONG, "BAD", BAD,
            "true", 1, "false", 0);

    public static void main(String[] args) throws IOException {
        String readme = Files.readString(Path.of("README.md"));
        about("README.md", () -> showsEachMethod(callsMadeIn(readme)));
        tellAndExit("README.md tells the answers that are given");
    }

    /** The names of the methods that were called. */
    private static Set<String> callsMadeIn(String readme) {
        CoverageDesk desk = new CoverageDesk();
        Set<String> called = new TreeSet<>();
        Matcher block = BLOCK.matcher(readme);
        while (block.find()) {
            for (String text : block.group(1).split("\n")) {
                Matcher call = CALL_SHOWN.matcher(text);
                if (call.matches()) {
                    called.add(call.group(1));
                    make(desk, text, call);
                } else {
                    due("a line that shows no call: " + text, text.isEmpty() || text.contains(" new "), true);
                }
            }
        }
        return called;
    }

    /** Without this, a file in which no call is found would pass. */
    private static void showsEachMethod(Set<String> called) {
        for (Method method : CoverageDesk.class.getDeclaredMethods()) {
            boolean open = Modifier.isPublic(method.getModifiers());
            due("a call of " + method.getName(), !open || called.contains(method.getName()), true);
        }
    }

    private static void make(CoverageDesk desk, String text, Matcher call) {
        String numbers = call.group(2);
        Object[] given = numbers.isEmpty() ? new Object[0]
                : Arrays.stream(numbers.split(", ")).map(Integer::valueOf).toArray();
        Class<?>[] types = new Class<?>[given.length];
        Arrays.fill(types, int.class);
        try {
            Object answer = CoverageDesk.class.getMethod(call.group(1), types).invoke(desk, given);
            int got = answer instanceof Boolean yes ? (yes ? 1 : 0) : (Integer) answer;
            due(text, got, told(call.group(3)));
        } catch (ReflectiveOperationException absent) {
            due("a call that the class has: " + text, false, true);
        }
    }

    /** The answer that a comment begins with; any other word stands for an add or guard that is not refused. */
    private static int told(String word) {
        return word.matches("-?\\d+") ? Integer.parseInt(word) : NAMED.getOrDefault(word, 1);
    }
}
