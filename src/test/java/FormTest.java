import java.lang.management.ManagementFactory;
import java.lang.reflect.Field;
import java.lang.reflect.Member;
import java.lang.reflect.Method;
import java.lang.reflect.Modifier;
import java.nio.file.Files;
import java.nio.file.Path;
import java.util.Arrays;
import java.util.Set;
import java.util.TreeSet;
import java.util.regex.Matcher;
import java.util.regex.Pattern;

/** The form that LANGUAGE.md asks for, as far as a program can see it: the face, the words, the room. */
public final class FormTest {
    private static final String[] FACE = {
        "int insert(int,int,int,int,int)", "int remove(int,int,int,int,int)", "int window(int,int,int,int)",
        "int next()", "int countIn(int,int,int,int)", "int nearest(int,int,int)", "int distance()", "int pairs()",
        "int visited(int)", "int pack()", "int clear()", "int count(int)", "int node(int,int)",
        "int held(int,int,int)", "boolean audit()",
    };
    private static final Set<String> CONSTANTS = Set.of("BAD", "NONE");
    private static final String[] RULED_OUT = {
        "\\bthrows?\\b", "\\btry\\b", "\\bcatch\\b", "\\bsynchronized\\b", "\\bassert\\b", "\\bimport\\b",
        "\\bpackage\\b", "->", "::", "\\bprotected\\b", "\\bSystem\\.(?!arraycopy)", "\\bstatic\\s*\\{",
        "\\w+Exact\\b", "\\bnew\\s+Random\\b", "\\bThread\\b",
    };
    private static final int MOST_PARAMETERS = 7, MOST_FIELDS = 20, MOST_CLASSES = 12;

    private static int wrong = 0;

    private static void fault(String text) {
        wrong++;
        System.out.println(text);
    }

    public static void main(String[] args) throws Exception {
        Path source = Path.of(args.length > 0 ? args[0] : "src/main/java/AreaTree.java");
        face();
        classesInside();
        words(Files.readString(source));
        room();
        neverThrows();
        System.out.println(wrong == 0 ? "the form is as due" : wrong + " faults of form");
        if (wrong != 0) {
            System.exit(1);
        }
    }

    private static String told(Method method) {
        String parameters = Arrays.stream(method.getParameterTypes()).map(Class::getSimpleName)
            .reduce((a, b) -> a + "," + b).orElse("");
        return method.getReturnType().getSimpleName() + " " + method.getName() + "(" + parameters + ")";
    }

    private static void face() {
        Class<?> type = AreaTree.class;
        if (!Modifier.isPublic(type.getModifiers()) || !Modifier.isFinal(type.getModifiers())) {
            fault("the class is not public and final");
        }
        Set<String> methods = new TreeSet<>();
        for (Method method : type.getDeclaredMethods()) {
            if (isSeen(method)) {
                methods.add(told(method));
            }
        }
        if (!methods.equals(new TreeSet<>(Arrays.asList(FACE)))) {
            fault("the methods to be seen are " + methods);
        }
        for (Field field : type.getDeclaredFields()) {
            if (isSeen(field) != CONSTANTS.contains(field.getName())) {
                fault("the field " + field.getName() + " is to be seen, or not");
            }
        }
        if (type.getDeclaredConstructors().length != 1 || type.getConstructors().length != 1) {
            fault("there is another constructor");
        }
    }

    private static boolean isSeen(Member member) {
        return !Modifier.isPrivate(member.getModifiers()) && !member.isSynthetic();
    }

    private static void classesInside() {
        Set<String> faceNames = new TreeSet<>();
        for (String method : FACE) {
            faceNames.add(method.substring(method.indexOf(' ') + 1, method.indexOf('(')));
        }
        Class<?>[] inside = AreaTree.class.getDeclaredClasses();
        if (inside.length + 1 > MOST_CLASSES) {
            fault("there are " + (inside.length + 1) + " classes");
        }
        for (Class<?> type : inside) {
            int modifiers = type.getModifiers();
            if (!Modifier.isStatic(modifiers) || Modifier.isPublic(modifiers) || Modifier.isProtected(modifiers)) {
                fault(type + " is not static, or seen from outside");
            }
            for (Method method : type.getDeclaredMethods()) {
                if (faceNames.contains(method.getName())) {
                    fault(method + " bears the name of a public one");
                }
                if (method.getParameterCount() > MOST_PARAMETERS) {
                    fault(method + " takes too many parameters");
                }
            }
            long fields = Arrays.stream(type.getDeclaredFields()).filter(f -> !Modifier.isStatic(f.getModifiers())).count();
            if (fields > MOST_FIELDS) {
                fault(type + " has " + fields + " fields");
            }
        }
    }

    private static void words(String source) {
        String code = source.replaceAll("(?s)/\\*.*?\\*/", " ").replaceAll("//[^\n]*", " ");
        for (String pattern : RULED_OUT) {
            Matcher matcher = Pattern.compile(pattern).matcher(code);
            if (matcher.find()) {
                fault("the program has '" + matcher.group() + "'");
            }
        }
        if (source.chars().anyMatch(c -> c > 126)) {
            fault("the program has a character beyond ASCII");
        }
    }

    /** All calls of a run share one room, so that no call but the constructor may make anything. */
    private static void room() {
        com.sun.management.ThreadMXBean threads = (com.sun.management.ThreadMXBean) ManagementFactory.getThreadMXBean();
        long id = Thread.currentThread().getId();
        AreaTree tree = new AreaTree(4, 2);
        useAll(tree);
        tree.clear();
        long before = threads.getThreadAllocatedBytes(id);
        useAll(tree);
        long made = threads.getThreadAllocatedBytes(id) - before;
        if (made > 1000) {
            fault("calls made objects of " + made + " bytes");
        }
        before = threads.getThreadAllocatedBytes(id);
        new AreaTree(10, 5);
        made = threads.getThreadAllocatedBytes(id) - before;
        if (made > 14_000 * 4L + 4000) {
            fault("the constructor made objects of " + made + " bytes");
        }
    }

    /** Any arguments in any state: an exception would end the test. */
    private static void neverThrows() {
        int[] odd = {Integer.MIN_VALUE, -32768, -1, 0, 1, 3, 399, 404, 999, 1000, 32767, 32768, Integer.MAX_VALUE};
        AreaTree[] trees = {new AreaTree(4, 2), new AreaTree(10, 5), new AreaTree(Integer.MIN_VALUE, Integer.MAX_VALUE)};
        useAll(trees[1]);
        for (AreaTree tree : trees) {
            for (int a : odd) {
                for (int b : odd) {
                    askOddly(tree, a, b, odd);
                }
                tree.next();
                tree.pack();
            }
            tree.clear();
            askOddly(tree, 0, 0, odd);
            if (!tree.audit()) {
                fault("odd calls spoilt a tree");
            }
        }
    }

    private static void askOddly(AreaTree tree, int a, int b, int[] odd) {
        tree.visited(a);
        tree.count(a);
        tree.node(a, b);
        for (int c : odd) {
            tree.held(a, b, c);
            tree.nearest(a, b, c);
            tree.window(a, b, c, a);
            tree.next();
            tree.countIn(a, c, b, c);
            tree.insert(a, b, c, c, b);
            tree.remove(c, b, a, a, b);
            tree.insert(Math.floorMod(a, 1000), b, c, b, c);
        }
    }

    private static void useAll(AreaTree tree) {
        for (int i = 0; i < 400; i++) {
            int x = i * 7919 % 2003, y = i * 104729 % 1999;
            tree.insert(i, x, y, x + i % 17, y + i % 13);
        }
        tree.window(0, 0, 2000, 2000);
        for (int i = 0; i < 400; i++) {
            tree.next();
        }
        for (int i = 0; i < 400; i += 57) {
            tree.nearest(i, i, i);
            tree.countIn(i, i, 900, 900);
        }
        tree.pairs();
        tree.visited(2);
        tree.audit();
        tree.pack();
        for (int i = 0; i < 300; i++) {
            int x = i * 7919 % 2003, y = i * 104729 % 1999;
            tree.remove(i, x, y, x + i % 17, y + i % 13);
        }
    }
}
