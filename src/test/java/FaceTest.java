import java.io.IOException;
import java.lang.reflect.Constructor;
import java.lang.reflect.Field;
import java.lang.reflect.Method;
import java.lang.reflect.Modifier;
import java.nio.file.Files;
import java.nio.file.Path;
import java.util.Arrays;
import java.util.HashMap;
import java.util.Map;
import java.util.Set;
import java.util.TreeSet;
import java.util.regex.Matcher;
import java.util.regex.Pattern;

/** The public face, as it is written here and as the document's own text has it. */
public final class FaceTest {
    private static final String[] FACE = {
        "int row(int int)", "int lay(int int int)", "int at(int int)", "int tear(int)", "int copy(int int int int int)",
        "int mean(int)", "int text(int int)", "int put(int int int)", "int fault(int)", "int line(int)",
        "int sleeper(int int)", "int mark(int int)", "int dreams(int int)", "int minute()", "int feed(int int)",
        "int wake(int)", "int lull(int)", "int undo(int)", "int keep(int)", "int on(int)", "int train(int)",
        "int comes()", "int stood(int)", "int intime()", "int feast(int int)", "int bed(int)", "int account(int)",
        "int kinds(int int)", "int look(int)", "int duel(int)", "int odds(int int int)", "int mid(int int)",
        "int lots(int int)", "int asked()", "long upper()", "long lower()", "int count(int)", "int finding()",
        "int findings(int)", "long digest()",
    };
    private static final Map<String, Integer> CONSTANTS =
            Map.of("BAD", -1, "FULL", -2, "FINDING", -3, "STATE", -4, "SPENT", -6, "NONE", -9);
    private static final Path DOCUMENT = Path.of("../shared/DOC.md");
    private static final Pattern FACE_IN_DOCUMENT = Pattern.compile("(?s)## The public face\\s+```java\n(.*?)```");
    private static final Pattern METHOD_IN_DOCUMENT = Pattern.compile("public (int|long) (\\w+)\\(([^)]*)\\);");
    private static final Pattern CONSTANT_IN_DOCUMENT = Pattern.compile("(\\w+) = (-?\\d+)");
    private static final Check check = new Check("FaceTest");

    public static void main(String[] args) throws IOException, ReflectiveOperationException {
        methods();
        privateNames();
        members();
        constants();
        document();
        check.end();
    }

    private static void yes(String what, boolean is) {
        check.due(what, is ? 1 : 0, 1);
    }

    private static void methods() {
        Set<String> seen = new TreeSet<>();
        for (Method m : DreamTrain.class.getDeclaredMethods()) {
            if (Modifier.isPublic(m.getModifiers())) {
                String types = String.join(" ", Arrays.stream(m.getParameterTypes()).map(Class::getName).toList());
                seen.add(m.getReturnType().getName() + " " + m.getName() + "(" + types + ")");
                yes(m + " is an object's", !Modifier.isStatic(m.getModifiers()));
                yes(m + " declares no exceptions", m.getExceptionTypes().length == 0);
            } else {
                yes(m + " is private", Modifier.isPrivate(m.getModifiers()) || m.isSynthetic());
            }
        }
        yes("the public methods are " + seen, seen.equals(new TreeSet<>(Arrays.asList(FACE))));
    }

    private static void privateNames() {
        Set<String> publicNames = new TreeSet<>();
        for (String method : FACE) {
            publicNames.add(method.substring(method.indexOf(' ') + 1, method.indexOf('(')));
        }
        for (Method m : DreamTrain.class.getDeclaredMethods()) {
            if (!Modifier.isPublic(m.getModifiers())) {
                yes(m + " bears no public method's name", !publicNames.contains(m.getName()));
            }
        }
        for (Class<?> nested : DreamTrain.class.getDeclaredClasses()) {
            for (Method m : nested.getDeclaredMethods()) {
                yes(m + " bears no public method's name", !publicNames.contains(m.getName()));
            }
        }
    }

    private static void members() {
        int modifiers = DreamTrain.class.getModifiers();
        yes("the class is public and final", Modifier.isPublic(modifiers) && Modifier.isFinal(modifiers));
        for (Field f : DreamTrain.class.getDeclaredFields()) {
            boolean isConstant = CONSTANTS.containsKey(f.getName());
            yes(f + " is as it should be", isConstant == Modifier.isPublic(f.getModifiers()));
            yes(f + " is public or private", isConstant || Modifier.isPrivate(f.getModifiers()));
        }
        Constructor<?>[] constructors = DreamTrain.class.getDeclaredConstructors();
        yes("one public constructor without parameters", constructors.length == 1
                && Modifier.isPublic(constructors[0].getModifiers()) && constructors[0].getParameterCount() == 0);
    }

    private static void constants() throws ReflectiveOperationException {
        for (String name : CONSTANTS.keySet()) {
            Field f = DreamTrain.class.getDeclaredField(name);
            yes(name + " is an int", f.getType() == int.class);
            yes(name + " is static and final", Modifier.isStatic(f.getModifiers()) && Modifier.isFinal(f.getModifiers()));
            check.due(name, f.getInt(null), CONSTANTS.get(name));
        }
    }

    private static void document() throws IOException {
        if (!Files.exists(DOCUMENT)) {
            System.out.println("FaceTest: there is no " + DOCUMENT + " to compare with");
            return;
        }
        Matcher face = FACE_IN_DOCUMENT.matcher(Files.readString(DOCUMENT));
        yes("the document has a public face", face.find());
        Set<String> methods = new TreeSet<>();
        Matcher method = METHOD_IN_DOCUMENT.matcher(face.group(1));
        while (method.find()) {
            String types = method.group(3).replaceAll("(\\w+) \\w+,?", "$1");
            methods.add(method.group(1) + " " + method.group(2) + "(" + types + ")");
        }
        yes("the document's methods are " + methods, methods.equals(new TreeSet<>(Arrays.asList(FACE))));
        Map<String, Integer> constants = new HashMap<>();
        Matcher constant = CONSTANT_IN_DOCUMENT.matcher(face.group(1));
        while (constant.find()) {
            constants.put(constant.group(1), Integer.parseInt(constant.group(2)));
        }
        yes("the document's constants are " + constants, constants.equals(CONSTANTS));
    }
}
