import java.io.IOException;
import java.lang.reflect.Field;
import java.lang.reflect.Method;
import java.lang.reflect.Modifier;
import java.nio.file.Files;
import java.nio.file.Path;
import java.util.ArrayList;
import java.util.HashMap;
import java.util.HashSet;
import java.util.List;
import java.util.Map;
import java.util.Set;
import java.util.regex.Matcher;
import java.util.regex.Pattern;

/**
 * Those rules of LANGUAGE.md that the class or its source can tell. The source is read by its lines: a
 * method or a constructor begins with its words in one line and ends with a brace as far in as these.
 */
public final class LanguageTest {
    private static final Path SOURCE = Path.of("src/main/java/DreamTrain.java");
    private static final Set<String> TYPES =
            Set.of("DreamTrain", "Shelf", "Line", "Reader", "Journey", "Arrays", "System", "Math", "Integer");
    private static final Set<String> LIBRARY =
            Set.of("Arrays.fill", "System.arraycopy", "Math.max", "Math.min", "Integer.bitCount");
    private static final Set<String> STATIC_TYPES =
            Set.of("int", "long", "boolean", "char", "class java.lang.String", "class [I", "class [J", "class [C", "class [B");
    private static final String[] BARRED = {
        "throw", "throws", "try", "catch", "synchronized", "assert", "->", "::", "import static", "protected",
        "instanceof", "equals", "hashCode", "toString", "native", "volatile", "transient", "goto", "@", "\"", "?<",
    };
    private static final Pattern BEGINNING =
            Pattern.compile("( +)(?:public|private) (?:static )?(?:\\w+(?:\\[\\])* )?(\\w+)\\((.*)\\) \\{");
    private static final int LINES = 60, PARAMETERS = 7, DEPTH = 8, CLASSES = 12, FIELDS = 20;
    private static final Check check = new Check("LanguageTest");

    private record Body(String name, String parameters, boolean isConstructor, List<String> lines) {
    }

    public static void main(String[] args) throws IOException {
        String source = Files.readString(SOURCE);
        String code = source.replaceAll("(?s)/\\*.*?\\*/", "").replaceAll("//[^\\n]*", "");
        List<Body> bodies = bodies(code);
        words(source, code);
        library(code);
        classes();
        statics(code);
        methods(bodies);
        calls(bodies);
        loops(code);
        check.end();
    }

    private static void yes(String what, boolean is) {
        check.due(what, is ? 1 : 0, 1);
    }

    private static List<String> found(String pattern, String code) {
        List<String> all = new ArrayList<>();
        Matcher matcher = Pattern.compile(pattern).matcher(code);
        while (matcher.find()) {
            all.add(matcher.group(matcher.groupCount()));
        }
        return all;
    }

    private static List<Body> bodies(String code) {
        List<Body> bodies = new ArrayList<>();
        List<String> lines = code.lines().toList();
        for (int at = 0; at < lines.size(); at++) {
            Matcher beginning = BEGINNING.matcher(lines.get(at));
            if (beginning.matches()) {
                int end = at;
                while (!lines.get(end).equals(beginning.group(1) + "}")) {
                    end++;
                }
                String name = beginning.group(2);
                bodies.add(new Body(name, beginning.group(3), TYPES.contains(name), lines.subList(at + 1, end)));
                at = end;
            }
        }
        return bodies;
    }

    // ---- rules 3, 4, 6, 13: the words of the source

    private static void words(String source, String code) {
        for (String word : BARRED) {
            boolean isName = Character.isLetter(word.charAt(0));
            String pattern = isName ? "\\b" + Pattern.quote(word) + "\\b" : Pattern.quote(word);
            yes("no " + word, found("(" + pattern + ")", code).isEmpty());
        }
        yes("no package line", found("(?m)^\\s*(package)\\b", code).isEmpty());
        yes("plain signs alone", source.chars().allMatch(c -> c == '\n' || c >= ' ' && c < 127));
        yes("no arrays of three dimensions", !code.contains("[][][]"));
        yes("no double, no float", found("\\b(double|float)\\b", code).isEmpty());
    }

    private static void library(String code) {
        yes("one import", found("(?m)^import ([^;]*);", code).equals(List.of("java.util.Arrays")));
        for (String type : found("\\b([A-Z]\\w*[a-z]\\w*)\\b", code)) {
            yes("the type " + type, TYPES.contains(type));
        }
        for (String call : found("\\b((?:Arrays|System|Math|Integer)\\.\\w+)", code.replaceAll("(?m)^import .*$", ""))) {
            yes("the call of " + call, LIBRARY.contains(call));
        }
    }

    // ---- rules 2, 5, 11: classes and fields

    private static List<Class<?>> allClasses() {
        List<Class<?>> all = new ArrayList<>(List.of(DreamTrain.class.getDeclaredClasses()));
        all.add(DreamTrain.class);
        return all;
    }

    private static void classes() {
        yes("twelve classes at most", allClasses().size() <= CLASSES);
        for (Class<?> nested : DreamTrain.class.getDeclaredClasses()) {
            int modifiers = nested.getModifiers();
            yes(nested + " is static", Modifier.isStatic(modifiers));
            yes(nested + " is not public", !Modifier.isPublic(modifiers) && !Modifier.isProtected(modifiers));
            check.due(nested + " has classes inside", nested.getDeclaredClasses().length, 0);
        }
        for (Class<?> one : allClasses()) {
            int fields = 0;
            for (Field f : one.getDeclaredFields()) {
                fields += Modifier.isStatic(f.getModifiers()) ? 0 : 1;
            }
            yes(one + " has some twenty fields at most: " + fields, fields <= FIELDS);
        }
    }

    private static void statics(String code) {
        yes("no static block", found("(static\\s*\\{)", code).isEmpty());
        for (Class<?> one : allClasses()) {
            for (Field f : one.getDeclaredFields()) {
                if (Modifier.isStatic(f.getModifiers())) {
                    yes(f + " is final", Modifier.isFinal(f.getModifiers()));
                    yes(f + " is of such a type", STATIC_TYPES.contains(f.getType().toString()));
                    String change = "\\b" + f.getName() + "\\s*\\[[^\\]]*\\]\\s*(?:=[^=]|\\+\\+|--|[-+*/%&|^]=)";
                    yes(f + " is never changed", found("(" + change + ")", code).isEmpty());
                }
            }
        }
    }

    // ---- rules 8, 11, 12: methods and calls

    private static void methods(List<Body> bodies) {
        int due = 0;
        for (Class<?> one : allClasses()) {
            for (Method m : one.getDeclaredMethods()) {
                due += m.isSynthetic() ? 0 : 1;
            }
        }
        int seen = 0;
        for (Body body : bodies) {
            seen += body.isConstructor() ? 0 : 1;
            yes(body.name() + " has some sixty lines at most", body.lines().size() <= LINES);
            yes(body.name() + " takes seven at most", body.parameters().split(",").length <= PARAMETERS);
            boolean makes = body.lines().stream().anyMatch(line -> line.matches(".*\\bnew\\b.*"));
            yes(body.name() + " makes no objects", body.isConstructor() || !makes);
        }
        check.due("methods that were read", seen, due);
    }

    private static void calls(List<Body> bodies) {
        Map<String, Set<String>> callees = new HashMap<>();
        for (Body body : bodies) {
            callees.computeIfAbsent(body.name(), name -> new HashSet<>())
                    .addAll(found("(\\w+)\\(", String.join("\n", body.lines())));
        }
        for (String call : LIBRARY) {
            callees.put(call.substring(call.indexOf('.') + 1), Set.of());
        }
        int deepest = 0;
        for (String name : callees.keySet()) {
            deepest = Math.max(deepest, depth(name, callees, 0));
        }
        yes("calls go eight deep at most, and none calls itself: " + deepest, deepest <= DEPTH);
    }

    /** How many calls stand open at once; one that calls itself stands open too often. */
    private static int depth(String name, Map<String, Set<String>> callees, int open) {
        int deepest = open + 1;
        if (open <= 2 * DEPTH) {
            for (String callee : callees.get(name)) {
                if (callees.containsKey(callee)) {
                    deepest = Math.max(deepest, depth(callee, callees, open + 1));
                }
            }
        }
        return deepest;
    }

    // ---- rule 9: loops

    private static void loops(String code) {
        List<String> loops = found("\\b(?:for|while) \\((.*)\\) \\{", code);
        yes("there are loops", loops.size() > 20);
        check.due("loops that were read", loops.size(), found("\\b(for|while|do)\\b", code).size());
        for (String loop : loops) {
            yes("'" + loop + "' has a bound", loop.matches("(.*;)?.* <=? .*"));
        }
    }
}
