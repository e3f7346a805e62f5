import java.lang.reflect.Field;
import java.lang.reflect.Method;
import java.lang.reflect.Modifier;
import java.nio.file.Files;
import java.nio.file.Path;
import java.util.ArrayList;
import java.util.Arrays;
import java.util.LinkedHashMap;
import java.util.List;
import java.util.Map;
import java.util.Set;
import java.util.TreeSet;
import java.util.regex.Matcher;
import java.util.regex.Pattern;

/** The rules of LANGUAGE.md that can be read off the program's lines; a fault is told with the rule's number. */
public final class LanguageTest {
    /** What the program needs of all that rule 4 lists; whatever else it comes to need is to be looked up there. */
    private static final Set<String> LIBRARY = Set.of("Math.max", "Math.min", "Math.abs", "Integer.compare",
        "Integer.MIN_VALUE", "Integer.MAX_VALUE");
    private static final Set<Class<?>> STATIC_TYPES = Set.of(int.class, long.class, boolean.class, char.class,
        String.class, int[].class, long[].class, char[].class, byte[].class);
    private static final Set<Class<?>> FIELD_TYPES = Set.of(int.class, long.class, boolean.class, int[].class);
    private static final int MOST_LINES = 60, DEEPEST = 8;

    private static final Pattern METHOD =
        Pattern.compile("(?m)^ +(?:(?:public|private|static) )*(?:(?:int|boolean|void) )?(\\w+)\\(([\\w ,\\[\\]]*)\\) \\{\\n");
    private static final Pattern CALL = Pattern.compile("(?<![\\w.])(?:(\\w+)\\.)?(\\w+)\\(");

    /** A method, or a constructor by its class's name: what it takes, and its lines. */
    private record Part(String parameters, String body) { }

    private static int wrong = 0;

    private static void fault(int rule, String text) {
        fault("LANGUAGE.md, rule " + rule + ": " + text);
    }

    private static void fault(String text) {
        wrong++;
        System.out.println(text);
    }

    public static void main(String[] args) throws Exception {
        String source = Files.readString(Path.of(args.length > 0 ? args[0] : "src/main/java/AreaTree.java"));
        String code = source.replaceAll("(?s)/\\*.*?\\*/", " ").replaceAll("//[^\n]*", " ");
        List<Class<?>> classes = new ArrayList<>(List.of(AreaTree.class));
        classes.addAll(Arrays.asList(AreaTree.class.getDeclaredClasses()));
        names();
        fields(classes);
        library(code, classes);
        Map<String, Part> parts = parts(code, classes);
        lengths(parts);
        recursion(parts);
        depth(parts);
        System.out.println(wrong == 0 ? parts.size() + " methods are as the rules ask" : wrong + " faults");
        if (wrong != 0) {
            System.exit(1);
        }
    }

    private static void names() {
        Set<String> seen = new TreeSet<>();
        for (Method method : AreaTree.class.getDeclaredMethods()) {
            if (!method.isSynthetic() && !seen.add(method.getName())) {
                fault(1, "two methods are called " + method.getName());
            }
        }
    }

    private static void fields(List<Class<?>> classes) {
        for (Class<?> type : classes) {
            for (Field field : type.getDeclaredFields()) {
                boolean isStatic = Modifier.isStatic(field.getModifiers());
                if (isStatic && !(Modifier.isFinal(field.getModifiers()) && STATIC_TYPES.contains(field.getType()))) {
                    fault(5, field + " is static, but no constant");
                }
                if (!isStatic && !FIELD_TYPES.contains(field.getType()) && !classes.contains(field.getType())) {
                    fault(3, field + " is of another type");
                }
            }
        }
    }

    private static void library(String code, List<Class<?>> classes) {
        Set<String> own = new TreeSet<>();
        classes.forEach(type -> own.add(type.getSimpleName()));
        Matcher used = Pattern.compile("(?<![\\w.])([A-Z]\\w*[a-z]\\w*)(\\.\\w+)?").matcher(code);
        while (used.find()) {
            if (!own.contains(used.group(1)) && !LIBRARY.contains(used.group())) {
                fault(4, "the program uses " + used.group());
            }
        }
        Matcher made = Pattern.compile("\\bnew (\\w+)").matcher(code);
        while (made.find()) {
            if (!own.contains(made.group(1)) && !made.group(1).equals("int")) {
                fault(4, "the program makes a " + made.group(1));
            }
        }
    }

    /** By names, which tell them apart here since no two classes have a method of one name. */
    private static Map<String, Part> parts(String code, List<Class<?>> classes) {
        Map<String, Part> parts = new LinkedHashMap<>();
        Matcher method = METHOD.matcher(code);
        while (method.find()) {
            String name = method.group(1);
            if (Set.of("if", "for", "while", "switch").contains(name)) {
                continue;
            }
            Part part = new Part(method.group(2), body(code, method.end()));
            if (parts.put(name, part) != null) {
                fault("the test cannot tell two methods " + name + " apart");
            }
        }
        for (Class<?> type : classes) {
            for (Method due : type.getDeclaredMethods()) {
                if (!due.isSynthetic() && !parts.containsKey(due.getName())) {
                    fault("the test does not find " + due.getName());
                }
            }
        }
        return parts;
    }

    private static String body(String code, int from) {
        int open = 1;
        int at = from;
        while (open > 0 && at < code.length()) {
            open += code.charAt(at) == '{' ? 1 : code.charAt(at) == '}' ? -1 : 0;
            at++;
        }
        return code.substring(from, at);
    }

    private static void lengths(Map<String, Part> parts) {
        parts.forEach((name, part) -> {
            long lines = part.body().lines().count() + 1;
            if (lines > MOST_LINES) {
                fault(11, name + " has " + lines + " lines");
            }
        });
    }

    private static Set<String> calledBy(Part part, Map<String, Part> parts) {
        Set<String> called = new TreeSet<>();
        Matcher call = CALL.matcher(part.body());
        while (call.find()) {
            boolean isLibrary = call.group(1) != null && Character.isUpperCase(call.group(1).charAt(0));
            if (isLibrary) {
                called.add(call.group(1) + "." + call.group(2));
            } else if (parts.containsKey(call.group(2))) {
                called.add(call.group(2));
            }
        }
        return called;
    }

    /** What calls itself must carry its depth, so that it can refuse to go deeper. */
    private static void recursion(Map<String, Part> parts) {
        parts.forEach((name, part) -> {
            if (calledBy(part, parts).contains(name) && !part.parameters().contains("int depth")) {
                fault(8, name + " calls itself without its depth");
            }
        });
    }

    private static void depth(Map<String, Part> parts) {
        parts.keySet().forEach(name -> {
            String chain = deepest(name, parts, new ArrayList<>());
            int calls = chain.split(" ").length;
            if (calls > DEEPEST) {
                fault(11, calls + " calls deep: " + chain);
            }
        });
    }

    /** The longest chain of calls from here on; a call of itself is recursion and makes it no longer. */
    private static String deepest(String name, Map<String, Part> parts, List<String> above) {
        if (!parts.containsKey(name)) {
            return name;
        }
        String longest = "";
        above.add(name);
        for (String called : calledBy(parts.get(name), parts)) {
            if (called.equals(name)) {
                continue;
            }
            if (above.contains(called)) {
                fault(8, called + " calls itself by way of " + name);
                continue;
            }
            String chain = " " + deepest(called, parts, above);
            longest = chain.split(" ").length > longest.split(" ").length ? chain : longest;
        }
        above.remove(above.size() - 1);
        return name + longest;
    }
}
