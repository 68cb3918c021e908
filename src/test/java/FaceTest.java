import java.lang.reflect.Constructor;
import java.lang.reflect.Field;
import java.lang.reflect.Method;
import java.lang.reflect.Modifier;
import java.nio.file.Files;
import java.nio.file.Path;
import java.util.ArrayList;
import java.util.Arrays;
import java.util.List;
import java.util.TreeSet;
import java.util.regex.Matcher;
import java.util.regex.Pattern;

/** The public face is the document's, no more and no less; and the rules of LANGUAGE.md that a look can tell. */
public final class FaceTest {
    private static final String[] FACE = {"feed 5", "tell 1", "fault 1", "join 3", "grow 2", "drop 2", "turn 2", "put 2",
        "deal 2", "replace 3", "solve 2", "undo 0", "net 2", "node 3", "alike 2", "parts 2", "least 2", "rivals 1",
        "lineDeck 2", "is 2", "trees 1", "term 2", "far 3", "card 2", "common 2", "told 2", "degree 2", "toldParts 2",
        "toldTerm 2", "proved 2", "reason 1", "answers 2", "mends 2", "count 1"};

    private int wrong = 0;

    private void must(boolean holds, String what) {
        if (!holds) {
            wrong++;
            System.out.println("does not hold: " + what);
        }
    }

    private static boolean isHidden(int modifiers) {
        return Modifier.isPrivate(modifiers);
    }

    private void methods() {
        TreeSet<String> found = new TreeSet<>();
        TreeSet<String> names = new TreeSet<>();
        for (Method m : DeckBench.class.getDeclaredMethods()) {
            if (!isHidden(m.getModifiers())) {
                must(Modifier.isPublic(m.getModifiers()) && !Modifier.isStatic(m.getModifiers()), m + " is public");
                must(m.getReturnType() == int.class, m + " answers an int");
                must(Arrays.stream(m.getParameterTypes()).allMatch(t -> t == int.class), m + " takes ints");
                found.add(m.getName() + " " + m.getParameterCount());
                names.add(m.getName());
            }
        }
        must(found.equals(new TreeSet<>(Arrays.asList(FACE))), "the methods are the document's: " + found);
        for (Class<?> c : classes()) {
            for (Method m : c.getDeclaredMethods()) {
                boolean clash = isHidden(m.getModifiers()) && names.contains(m.getName());
                must(!clash, m + " bears no public method's name");
                must(m.getParameterCount() <= 7, m + " takes at most seven");
            }
        }
    }

    private void rest() throws ReflectiveOperationException {
        must(Modifier.isFinal(DeckBench.class.getModifiers()), "the class is final");
        Constructor<?>[] constructors = DeckBench.class.getDeclaredConstructors();
        must(constructors.length == 1 && Modifier.isPublic(constructors[0].getModifiers())
                && constructors[0].getParameterCount() == 0, "one public constructor without parameters");
        for (Field f : DeckBench.class.getDeclaredFields()) {
            boolean isNone = f.getName().equals("NONE") && Modifier.isPublic(f.getModifiers())
                    && f.getType() == int.class && Modifier.isStatic(f.getModifiers());
            must(isHidden(f.getModifiers()) || isNone, f + " is hidden");
        }
        must(DeckBench.NONE == -1, "NONE is -1");
        must(classes().size() <= 12, "at most twelve classes");
        for (Class<?> c : classes()) {
            must(c == DeckBench.class || Modifier.isStatic(c.getModifiers()), c + " is static");
            long fields = Arrays.stream(c.getDeclaredFields()).filter(f -> !Modifier.isStatic(f.getModifiers())).count();
            must(fields <= 20, c + " has at most twenty fields");
            for (Field f : c.getDeclaredFields()) {
                must(!Modifier.isStatic(f.getModifiers()) || Modifier.isFinal(f.getModifiers()), f + " is final");
            }
        }
    }

    private static List<Class<?>> classes() {
        List<Class<?>> all = new ArrayList<>();
        all.add(DeckBench.class);
        all.addAll(Arrays.asList(DeckBench.class.getDeclaredClasses()));
        return all;
    }

    private static String withoutComments(String source) {
        return source.replaceAll("(?s)/\\*.*?\\*/", "").replaceAll("//[^\n]*", "");
    }

    private void source(String file) throws java.io.IOException {
        String whole = Files.readString(Path.of(file));
        must(whole.chars().allMatch(c -> c == '\n' || (c >= 32 && c < 127)), "the source is plain ASCII");
        String code = withoutComments(whole);
        String[] words = {"throw", "throws", "try", "catch", "finally", "synchronized", "assert", "import", "package",
            "protected", "System\\.out", "->", "::", "instanceof", "hashCode", "toString", "double", "float"};
        for (String word : words) {
            boolean isWord = Character.isLetter(word.charAt(0));
            Matcher m = Pattern.compile(isWord ? "\\b" + word + "\\b" : word).matcher(code);
            must(!m.find(), "no '" + word + "' in the source");
        }
        int start = 0;
        String[] lines = whole.split("\n");
        Pattern head = Pattern.compile("^(    |        )[^ /*].*\\) \\{$");
        for (int i = 0; i < lines.length; i++) {
            must(lines[i].length() <= 120, "line " + (i + 1) + " is not too long");
            if (head.matcher(lines[i]).matches()) {
                start = i;
            }
            if (lines[i].matches("^(    |        )\\}$")) {
                must(i - start < 60 || lines[i].length() == 5, "the method that ends in line " + (i + 1) + " is short");
            }
        }
    }

    public static void main(String[] args) throws Exception {
        FaceTest test = new FaceTest();
        test.methods();
        test.rest();
        if (args.length > 0) {
            test.source(args[0]);
        }
        System.out.println(test.wrong == 0 ? "the face is as due" : test.wrong + " rules do not hold");
        if (test.wrong != 0) {
            System.exit(1);
        }
    }
}
