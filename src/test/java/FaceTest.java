import java.io.IOException;
import java.lang.reflect.Constructor;
import java.lang.reflect.Field;
import java.lang.reflect.Method;
import java.lang.reflect.Modifier;
import java.nio.file.Files;
import java.nio.file.Path;
import java.util.Arrays;
import java.util.Set;
import java.util.TreeSet;
import java.util.regex.Matcher;
import java.util.regex.Pattern;

/** The public face of the document, and those rules of LANGUAGE.md that a look at the class can tell. */
public final class FaceTest {
    private static final String[] FACE = {
        "int row(int int)", "int lay(int int int)", "int at(int int)", "int tear(int)", "int copy(int int int int int)",
        "int mean(int)", "int text(int int)", "int put(int int int)", "int fault(int)", "int line(int)",
        "int sleeper(int int)", "int mark(int int)", "int dreams(int int)", "int minute()", "int feed(int int)",
        "int wake(int)", "int lull(int)", "int undo(int)", "int keep(int)", "int on(int)", "int train(int)",
        "int comes()", "int stood(int)", "int intime()", "int feast(int int)", "int bed(int)", "int account(int)",
        "int kinds(int int)", "int look(int)", "int duel(int)", "int odds(int int int)", "int mid(int int)",
        "int lots(int int)", "int asked()", "long upper()", "long lower()", "int count(int)", "int finding()",
        "int findings(int)", "long digest()",
    };
    private static final Set<String> CONSTANTS = Set.of("BAD", "FULL", "FINDING", "STATE", "SPENT", "NONE");
    private static final String[] BARRED = {
        "throw", "throws", "try", "catch", "synchronized", "assert", "->", "::", "import static", "Exact", "hashCode",
        "toString", "System.out", "Random", "currentTimeMillis", "nanoTime", "Thread",
    };
    private static final Check check = new Check("FaceTest");

    public static void main(String[] args) throws IOException {
        methods();
        members();
        nestedClasses();
        source();
        check.end();
    }

    private static void yes(String what, boolean is) {
        check.due(what, is ? 1 : 0, 1);
    }

    private static void methods() {
        Set<String> seen = new TreeSet<>();
        Set<String> publicNames = new TreeSet<>();
        for (Method m : DreamTrain.class.getDeclaredMethods()) {
            if (Modifier.isPublic(m.getModifiers())) {
                publicNames.add(m.getName());
                String types = String.join(" ", Arrays.stream(m.getParameterTypes()).map(Class::getName).toList());
                seen.add(m.getReturnType().getName() + " " + m.getName() + "(" + types + ")");
            } else {
                yes(m + " is private", Modifier.isPrivate(m.getModifiers()) || m.isSynthetic());
            }
        }
        yes("the public methods are " + seen, seen.equals(new TreeSet<>(Arrays.asList(FACE))));
        for (Method m : DreamTrain.class.getDeclaredMethods()) {
            if (!Modifier.isPublic(m.getModifiers())) {
                yes(m + " bears no public method's name", !publicNames.contains(m.getName()));
            }
            yes(m + " takes seven at most", m.getParameterCount() <= 7);
        }
        for (Class<?> nested : DreamTrain.class.getDeclaredClasses()) {
            for (Method m : nested.getDeclaredMethods()) {
                yes(m + " bears no public method's name", !publicNames.contains(m.getName()));
            }
        }
    }

    private static void members() {
        int modifiers = DreamTrain.class.getModifiers();
        yes("the class is public and final", Modifier.isPublic(modifiers) && Modifier.isFinal(modifiers));
        int state = 0;
        for (Field f : DreamTrain.class.getDeclaredFields()) {
            boolean isConstant = CONSTANTS.contains(f.getName());
            yes(f + " is as it should be", isConstant == Modifier.isPublic(f.getModifiers()));
            yes(f + " is public or private", isConstant || Modifier.isPrivate(f.getModifiers()));
            yes(f + " is final, if static", !Modifier.isStatic(f.getModifiers()) || Modifier.isFinal(f.getModifiers()));
            state += Modifier.isStatic(f.getModifiers()) ? 0 : 1;
        }
        yes("some twenty fields", state <= 20);
        Constructor<?>[] constructors = DreamTrain.class.getDeclaredConstructors();
        yes("one public constructor without parameters", constructors.length == 1
                && Modifier.isPublic(constructors[0].getModifiers()) && constructors[0].getParameterCount() == 0);
    }

    private static void nestedClasses() {
        Class<?>[] nested = DreamTrain.class.getDeclaredClasses();
        yes("twelve classes at most", nested.length < 12);
        for (Class<?> c : nested) {
            int modifiers = c.getModifiers();
            yes(c + " is static", Modifier.isStatic(modifiers));
            yes(c + " is not public", !Modifier.isPublic(modifiers) && !Modifier.isProtected(modifiers));
        }
    }

    private static void source() throws IOException {
        String source = Files.readString(Path.of("src/main/java/DreamTrain.java"));
        String code = source.replaceAll("(?s)/\\*.*?\\*/", "").replaceAll("//[^\\n]*", "");
        for (String word : BARRED) {
            String pattern = Character.isLetter(word.charAt(0)) ? "\\b" + Pattern.quote(word) + "\\b" : Pattern.quote(word);
            yes("no " + word, !Pattern.compile(pattern).matcher(code).find());
        }
        yes("no package line", !Pattern.compile("(?m)^\\s*package\\b").matcher(code).find());
        Matcher imports = Pattern.compile("(?m)^import ([^;]*);").matcher(code);
        while (imports.find()) {
            yes("import " + imports.group(1), imports.group(1).equals("java.util.Arrays"));
        }
        yes("plain signs alone", source.chars().allMatch(c -> c == '\n' || c >= ' ' && c < 127));
    }
}
