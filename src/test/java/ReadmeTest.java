import java.io.IOException;
import java.lang.reflect.Method;
import java.lang.reflect.Modifier;
import java.nio.file.Files;
import java.nio.file.Path;
import java.util.ArrayList;
import java.util.Arrays;
import java.util.List;
import java.util.Set;
import java.util.TreeSet;
import java.util.regex.Matcher;
import java.util.regex.Pattern;
import java.util.stream.Stream;

/**
 * The calls that README.md shows, read from it and made as they stand there, so that it can neither
 * say what the program does not answer nor show a line that nobody tried.
 */
public final class ReadmeTest extends Checks {
    private static final Path README = Path.of("README.md");
    private static final Path TESTS = Path.of("src/test/java");
    private static final Path RUN = Path.of(".ci/run");

    private static final Pattern MAKING =
        Pattern.compile("AreaTree tree = new AreaTree\\((-?\\d+), (-?\\d+)\\);(?: +// .+)?");
    private static final Pattern CALL =
        Pattern.compile("tree\\.(\\w+)\\(((?:-?\\d+(?:, -?\\d+)*)?)\\); +// (-?\\d+|true|false)(?: \\((\\w+)\\))?(?:: .+)?");
    private static final Pattern CONSTANT = Pattern.compile("`AreaTree\\.(\\w+)` \\((-?\\d+)\\)");
    private static final Pattern FILE = Pattern.compile("`((?:src|\\.\\./shared)/[^`]+)`");

    private static final Set<String> shown = new TreeSet<>();

    public static void main(String[] args) throws Exception {
        List<String> lines = Files.readAllLines(README);
        int examples = makeAll(lines);
        due("examples that begin with a new object", examples > 0, true);
        wholeFaceIsShown();
        constantsAreRight(String.join("\n", lines));
        filesAreThere(String.join("\n", lines));
        finish();
    }

    /** Every line between the marks of Java code must be an object that is made, or a call with its answer. */
    private static int makeAll(List<String> lines) throws ReflectiveOperationException {
        AreaTree tree = null;
        boolean inCode = false;
        int examples = 0;
        for (int i = 0; i < lines.size(); i++) {
            String line = lines.get(i);
            if (line.startsWith("```")) {
                inCode = !inCode && line.equals("```java");
                tree = null;
            } else if (inCode && !line.isBlank()) {
                sentence("README.md, line " + (i + 1), line);
                Matcher making = MAKING.matcher(line);
                if (making.matches()) {
                    due("an object that is already made", tree != null, false);
                    tree = new AreaTree(Integer.parseInt(making.group(1)), Integer.parseInt(making.group(2)));
                    examples++;
                } else {
                    makeCall(tree, line);
                }
            }
        }
        return examples;
    }

    private static void makeCall(AreaTree tree, String line) throws ReflectiveOperationException {
        Matcher call = CALL.matcher(line);
        boolean isCall = call.matches();
        due("is a call on an object, with its answer", isCall && tree != null, true);
        if (!isCall || tree == null) {
            return;
        }
        String[] numbers = call.group(2).isEmpty() ? new String[0] : call.group(2).split(", ");
        Object[] arguments = Arrays.stream(numbers).map(Integer::valueOf).toArray();
        Class<?>[] types = new Class<?>[arguments.length];
        Arrays.fill(types, int.class);
        Object answer = AreaTree.class.getMethod(call.group(1), types).invoke(tree, arguments);
        due("the call", answer.toString(), call.group(3));
        if (call.group(4) != null) {
            due("its name", "" + AreaTree.class.getField(call.group(4)).getInt(null), call.group(3));
        }
        shown.add(call.group(1));
        if (arguments.length > 0) {
            shown.add(call.group(1) + " " + arguments[arguments.length - 1]);
        }
    }

    private static void due(String call, String got, String want) {
        due(call + " (" + got + ", not " + want + ")", got.equals(want), true);
    }

    /** Each call of the face, and of those that take the number of what is asked for every such number. */
    private static void wholeFaceIsShown() {
        sentence("README.md", "How to use it");
        for (Method method : AreaTree.class.getDeclaredMethods()) {
            if (Modifier.isPublic(method.getModifiers())) {
                due("shows " + method.getName() + "()", shown.contains(method.getName()), true);
            }
        }
        allNumbersAreShown("visited", 2);
        allNumbersAreShown("count", 7);
        allNumbersAreShown("node", 6);
        allNumbersAreShown("held", 4);
    }

    private static void allNumbersAreShown(String call, int last) {
        for (int what = 0; what <= last; what++) {
            due("shows " + call + "() of what " + what, shown.contains(call + " " + what), true);
        }
    }

    private static void constantsAreRight(String text) throws ReflectiveOperationException {
        sentence("README.md", "No call throws");
        Set<String> named = new TreeSet<>();
        Matcher constant = CONSTANT.matcher(text);
        while (constant.find()) {
            named.add(constant.group(1));
            due("AreaTree." + constant.group(1), AreaTree.class.getField(constant.group(1)).getInt(null),
                Integer.parseInt(constant.group(2)));
        }
        due("names BAD and NONE", named.equals(Set.of("BAD", "NONE")), true);
    }

    private static void filesAreThere(String text) throws IOException {
        sentence("README.md", "How to run its tests");
        due("names .ci/run", text.contains("\n    " + RUN + "\n"), true);
        due(".ci/run can be run", Files.isExecutable(RUN), true);
        Set<String> named = new TreeSet<>();
        Matcher file = FILE.matcher(text);
        while (file.find()) {
            named.add(file.group(1));
            due(file.group(1) + " is there", Files.exists(Path.of(file.group(1))), true);
        }
        for (String test : ownTests()) {
            due("names " + test, named.contains(test), true);
        }
    }

    private static List<String> ownTests() throws IOException {
        List<String> names = new ArrayList<>();
        try (Stream<Path> files = Files.list(TESTS)) {
            files.filter(f -> f.toString().endsWith(".java")).forEach(f -> names.add(f.toString()));
        }
        return names;
    }
}
