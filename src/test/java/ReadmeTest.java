import java.io.IOException;
import java.io.StringWriter;
import java.net.URI;
import java.net.URL;
import java.net.URLClassLoader;
import java.nio.file.Files;
import java.nio.file.Path;
import java.util.ArrayList;
import java.util.Comparator;
import java.util.HashMap;
import java.util.List;
import java.util.Map;
import java.util.Set;
import java.util.TreeSet;
import java.util.regex.Matcher;
import java.util.regex.Pattern;
import java.util.stream.Stream;
import javax.tools.JavaCompiler;
import javax.tools.SimpleJavaFileObject;
import javax.tools.ToolProvider;

/** What README.md shows as an example compiles and answers as README.md says, and its tables are right. */
public final class ReadmeTest {
    private static final Pattern BLOCK = Pattern.compile("(?ms)^```java\\n(.*?)^```$");
    private static final Pattern ANSWERED = Pattern.compile("(\\s*)(x\\.\\w+\\(.*\\));\\s*// (-?\\d+)\\b.*");
    private static final Pattern TABLE_ROW = Pattern.compile("(?m)^\\| `?(\\w+)`? \\| (-?\\d+) \\|");
    private static final Pattern TEST_ROW = Pattern.compile("(?m)^\\| (\\w+Test) \\|");
    private static final Map<String, Integer> FINDINGS =
            Map.of("NOTHING", 1, "BEYOND", 2, "UNLIKE", 3, "NOUGHT", 4, "SIZE", 5);
    private static final Check check = new Check("ReadmeTest");

    public static void main(String[] args) throws Exception {
        String page = Files.readString(Path.of("README.md"));
        answers(page);
        numbers(page);
        tests(page);
        check.end();
    }

    private static void yes(String what, boolean is) {
        check.due(what, is ? 1 : 0, 1);
    }

    // ---- examples

    /** Called by the program that is made of the examples: public, as a class of another loader calls it. */
    public static void answer(String call, long got, long want) {
        check.due("README.md: " + call, got, want);
    }

    private static void answers(String page) throws Exception {
        StringBuilder program = new StringBuilder("public final class Night {\n    public static void pass() {\n");
        int answered = 0;
        Matcher block = BLOCK.matcher(page);
        while (block.find()) {
            for (String line : block.group(1).lines().toList()) {
                Matcher call = ANSWERED.matcher(line);
                if (call.matches()) {
                    answered++;
                    program.append("ReadmeTest.answer(\"").append(call.group(2)).append("\", ")
                            .append(call.group(2)).append(", ").append(call.group(3)).append("L);\n");
                } else {
                    yes("'" + line + "' tells no answer, or one that is looked at", !line.contains("//"));
                    program.append(line).append('\n');
                }
            }
        }
        yes("every kind of call is shown, or nearly so: " + answered, answered >= 50);
        run(program.append("    }\n}\n").toString());
    }

    private static void run(String program) throws Exception {
        Path out = Files.createTempDirectory("readme");
        try {
            StringWriter words = new StringWriter();
            boolean compiled = compile(program, out, words);
            yes("the examples compile: " + words, compiled);
            if (compiled) {
                load(out);
            }
        } finally {
            remove(out);
        }
    }

    private static boolean compile(String program, Path out, StringWriter words) {
        JavaCompiler compiler = ToolProvider.getSystemJavaCompiler();
        if (compiler == null) {
            words.append("there is no compiler beside this java");
            return false;
        }
        SimpleJavaFileObject source = new SimpleJavaFileObject(
                URI.create("string:///Night.java"), SimpleJavaFileObject.Kind.SOURCE) {
            @Override
            public CharSequence getCharContent(boolean ignoreEncodingErrors) {
                return program;
            }
        };
        List<String> options = List.of("-d", out.toString(), "-cp", System.getProperty("java.class.path"));
        return compiler.getTask(words, null, null, options, null, List.of(source)).call();
    }

    private static void load(Path out) throws Exception {
        try (URLClassLoader loader = new URLClassLoader(new URL[] {out.toUri().toURL()})) {
            loader.loadClass("Night").getMethod("pass").invoke(null);
        }
    }

    private static void remove(Path out) throws IOException {
        List<Path> paths = new ArrayList<>();
        try (Stream<Path> found = Files.walk(out)) {
            found.sorted(Comparator.reverseOrder()).forEach(paths::add);
        }
        for (Path path : paths) {
            Files.delete(path);
        }
    }

    // ---- tables

    private static void numbers(String page) throws ReflectiveOperationException {
        Map<String, Integer> told = new HashMap<>();
        Matcher row = TABLE_ROW.matcher(page);
        while (row.find()) {
            told.put(row.group(1), Integer.parseInt(row.group(2)));
        }
        Map<String, Integer> due = new HashMap<>(FINDINGS);
        for (String name : List.of("BAD", "FULL", "FINDING", "STATE", "SPENT", "NONE")) {
            due.put(name, DreamTrain.class.getField(name).getInt(null));
        }
        yes("the numbers of the tables: " + told, told.equals(due));
    }

    private static void tests(String page) throws IOException {
        Set<String> told = new TreeSet<>();
        Matcher row = TEST_ROW.matcher(page);
        while (row.find()) {
            told.add(row.group(1));
        }
        Set<String> there = new TreeSet<>();
        try (Stream<Path> files = Files.list(Path.of("src/test/java"))) {
            files.map(file -> file.getFileName().toString()).filter(name -> name.endsWith("Test.java"))
                    .forEach(name -> there.add(name.substring(0, name.length() - ".java".length())));
        }
        yes("the tests that are told, " + told + ", are those that there are, " + there, told.equals(there));
    }
}
