import java.lang.reflect.Method;
import java.lang.reflect.Modifier;
import java.nio.file.Files;
import java.nio.file.Path;
import java.util.Map;
import java.util.TreeMap;
import java.util.TreeSet;
import java.util.regex.Matcher;
import java.util.regex.Pattern;

/** What README.md shows as a call and its answer holds; each call of the face is shown. */
public final class ReadmeTest {
    private static final String NEW_OBJECT = "DeckBench bench = new DeckBench();";
    private static final Pattern CALL = Pattern.compile("bench\\.(\\w+)\\((.*?)\\);\\s*// (-?\\d+)(: .*)?");
    private static final Pattern QUOTED = Pattern.compile(": \"(.*)\"");
    private static final int MOST_CALLS = 512;

    private final Map<String, Method> face = new TreeMap<>();
    private final TreeSet<String> shown = new TreeSet<>();
    private DeckBench bench = null;
    private int calls = 0;
    private int wrong = 0;

    private ReadmeTest() {
        for (Method m : DeckBench.class.getDeclaredMethods()) {
            if (Modifier.isPublic(m.getModifiers())) {
                face.put(m.getName(), m);
            }
        }
    }

    private void must(boolean holds, String what) {
        if (!holds) {
            wrong++;
            System.out.println("README.md: " + what);
        }
    }

    private static int number(String text) {
        if (text.equals("DeckBench.NONE")) {
            return DeckBench.NONE;
        }
        return text.startsWith("0b") ? Integer.parseInt(text.substring(2), 2) : Integer.decode(text);
    }

    private static Object[] arguments(String list) {
        if (list.isBlank()) {
            return new Object[0];
        }
        String[] texts = list.split(",");
        Object[] numbers = new Object[texts.length];
        for (int i = 0; i < texts.length; i++) {
            numbers[i] = number(texts[i].strip());
        }
        return numbers;
    }

    private static String bytes(Object[] fed) {
        StringBuilder text = new StringBuilder();
        for (Object four : fed) {
            for (int shift = 24; shift >= 0; shift -= 8) {
                text.append((char) ((Integer) four >>> shift & 255));
            }
        }
        return text.toString();
    }

    /** A line of code that is neither a new object nor a call with its answer would be shown untried. */
    private void line(String line) throws ReflectiveOperationException {
        if (line.equals(NEW_OBJECT)) {
            bench = new DeckBench();
            calls = 0;
            return;
        }
        Matcher call = CALL.matcher(line);
        if (!call.matches()) {
            must(false, "no call with its answer: " + line);
            return;
        }
        Method method = face.get(call.group(1));
        Object[] given = arguments(call.group(2));
        if (bench == null || method == null || method.getParameterCount() != given.length) {
            must(false, "no call that can be made: " + line);
            return;
        }
        calls++;
        shown.add(method.getName());
        int answer = (Integer) method.invoke(bench, given);
        must(answer == Integer.parseInt(call.group(3)), "answered " + answer + ": " + line);
        Matcher quoted = QUOTED.matcher(call.group(4) == null ? "" : call.group(4));
        if (quoted.matches()) {
            must(bytes(given).equals(quoted.group(1)), "the bytes are \"" + bytes(given) + "\": " + line);
        }
        must(calls <= MOST_CALLS, "more calls on one object than it is used for");
    }

    public static void main(String[] args) throws Exception {
        ReadmeTest test = new ReadmeTest();
        boolean inCode = false;
        for (String line : Files.readAllLines(Path.of("README.md"))) {
            if (line.startsWith("```")) {
                inCode = line.equals("```java");
            } else if (inCode) {
                test.line(line.strip());
            }
        }
        test.must(test.shown.equals(test.face.keySet()), "shows of the face only " + test.shown);
        if (test.wrong > 0) {
            System.exit(1);
        }
        System.out.println("README.md shows what holds");
    }
}
