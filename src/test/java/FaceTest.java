import java.lang.reflect.Constructor;
import java.lang.reflect.Field;
import java.lang.reflect.Method;
import java.lang.reflect.Modifier;
import java.nio.file.Files;
import java.nio.file.Path;
import java.util.ArrayList;
import java.util.Arrays;
import java.util.Collections;
import java.util.HashSet;
import java.util.List;
import java.util.Set;
import java.util.regex.Pattern;

/** The class has the document's face and no other, and keeps to the rules that can be read off it. */
final class FaceTest {
    private static final String[] FACE = {
        "int feed(int, int, int, int, int)", "boolean end(int)", "int days(int)", "int bay(int, int, int, int)",
        "int weather(int, int, int, int, int, int)", "void trains(int)", "int span(boolean, int, int)",
        "int nest(int, int, int)", "int terms()", "int fault()", "int why(int, int, int, int)",
        "int at(int, int, int, int, int)", "int hours(int, int, int, int, int)", "int gang(int)",
        "int batch(int, int, int)", "int ends(int, int, int, int)", "boolean may(int, int)",
        "int job(int, int, int, int, int)", "int look(int, int)", "boolean peel(int)", "boolean fail(int)",
        "int last(int, int, int)", "int recall(int, int, boolean)", "int left(int)", "int caught(int, int, int)",
        "int bare(int, int, int, int)", "void rust(int, int, int)", "int reading(int, int, int)",
        "int steel(int, int, int, boolean)", "int below(int, int, int)", "int order(int, int, int, int, int)",
        "int put(int, int, int, int)", "void cost(int, int, int)", "void wear(int, int, int, int)",
        "int spent(int, int)", "long promise(int, int, int)", "int edge(int, int, int, int)", "int even(int)",
        "int peels(int, int, boolean)", "int worst(int)", "int risk(int)", "int match(int, int)",
        "int bolt(int, int)", "int finds(int, int, int)", "int thick()", "void image()", "boolean back()",
        "int count(int)"
    };

    private FaceTest() {
    }

    public static void main(String[] args) throws Exception {
        methods();
        asTheDocumentWritesIt();
        otherMembers();
        nestedClasses();
        source();
        Check.finish("FaceTest");
    }

    private static String signature(Method method) {
        List<String> kinds = new ArrayList<>();
        for (Class<?> kind : method.getParameterTypes()) {
            kinds.add(kind.getName());
        }
        return method.getReturnType().getName() + " " + method.getName() + "(" + String.join(", ", kinds) + ")";
    }

    private static void methods() {
        List<String> found = new ArrayList<>();
        Set<String> names = new HashSet<>();
        for (Method method : BridgePaint.class.getDeclaredMethods()) {
            if (Modifier.isPublic(method.getModifiers())) {
                Check.due(method + " is static", Modifier.isStatic(method.getModifiers()), false);
                found.add(signature(method));
                names.add(method.getName());
            }
        }
        List<String> due = new ArrayList<>(Arrays.asList(FACE));
        Collections.sort(due);
        Collections.sort(found);
        Check.due("the face " + found + " is " + due, found.equals(due), true);
        for (Method method : BridgePaint.class.getDeclaredMethods()) {
            if (!Modifier.isPublic(method.getModifiers())) {
                Check.due(method + " is private", Modifier.isPrivate(method.getModifiers()), true);
                Check.due(method + " bears a name of the face", names.contains(method.getName()), false);
            }
        }
    }

    /** Names of parameters and exceptions too, which the methods' kinds alone do not tell. */
    private static void asTheDocumentWritesIt() throws Exception {
        String document = Files.readString(Path.of("../shared/DOC.md"));
        int from = document.indexOf("public final class BridgePaint {");
        String face = document.substring(from, document.indexOf("```", from));
        String program = Files.readString(Path.of("src/main/java/BridgePaint.java")).replaceAll("\\s+", " ");
        int lines = 0;
        for (String line : face.split("\n")) {
            String told = line.strip();
            if (told.startsWith("public ") && told.endsWith(";")) {
                lines++;
                boolean isConstant = told.contains("=");
                String due = isConstant ? told : told.substring(0, told.length() - 1) + " {";
                Check.due("the program has " + due, program.contains(" " + due + " "), true);
            }
        }
        Check.due("the constant, the constructor and the methods", lines, 2 + FACE.length);
    }

    private static void otherMembers() throws Exception {
        int modifiers = BridgePaint.class.getModifiers();
        Check.due("public", Modifier.isPublic(modifiers), true);
        Check.due("final", Modifier.isFinal(modifiers), true);
        Check.due("no package", BridgePaint.class.getPackageName().isEmpty(), true);
        for (Field field : BridgePaint.class.getDeclaredFields()) {
            boolean isNone = field.getName().equals("NONE");
            Check.due(field + " is private", Modifier.isPrivate(field.getModifiers()), !isNone);
            if (isNone) {
                Check.due("NONE", field.getInt(null), -1);
                Check.due("NONE is public static final",
                        field.getModifiers(), Modifier.PUBLIC | Modifier.STATIC | Modifier.FINAL);
            }
        }
        Constructor<?>[] constructors = BridgePaint.class.getDeclaredConstructors();
        Check.due("constructors", constructors.length, 1);
        Check.due("public constructor", Modifier.isPublic(constructors[0].getModifiers()), true);
        Check.due("its parameters", constructors[0].getParameterCount(), 0);
    }

    private static void nestedClasses() {
        Class<?>[] nested = BridgePaint.class.getDeclaredClasses();
        Check.due("some twelve classes", nested.length <= 11, true);
        Set<String> names = new HashSet<>();
        for (String signature : FACE) {
            names.add(signature.substring(signature.indexOf(' ') + 1, signature.indexOf('(')));
        }
        for (Class<?> inside : nested) {
            Check.due(inside + " is static", Modifier.isStatic(inside.getModifiers()), true);
            Check.due(inside + " is public", Modifier.isPublic(inside.getModifiers()), false);
            int fields = 0;
            for (Field field : inside.getDeclaredFields()) {
                boolean isStatic = Modifier.isStatic(field.getModifiers());
                fields += isStatic ? 0 : 1;
                Check.due(field + " is final if static", !isStatic || Modifier.isFinal(field.getModifiers()), true);
            }
            Check.due(inside + " has some twenty fields", fields <= 20, true);
            for (Method method : inside.getDeclaredMethods()) {
                Check.due(method + " bears a name of the face", names.contains(method.getName()), false);
                Check.due(method + " has at most seven parameters", method.getParameterCount() <= 7, true);
            }
        }
    }

    /** What LANGUAGE.md shuts out and a word of the source gives away. */
    private static void source() throws Exception {
        String text = Files.readString(Path.of("src/main/java/BridgePaint.java"));
        String code = text.replaceAll("(?s)/\\*.*?\\*/", " ").replaceAll("//[^\n]*", " ");
        String[] barred = {"->", "::", "\\bfinally\\b", "\\bsynchronized\\b", "\\bassert\\b", "\\bcatch\\b",
            "\\bpackage\\b", "\\bSystem\\.(?!arraycopy\\b)", "\\bObject\\b", "\\bequals\\b", "\\bhashCode\\b",
            "\\btoString\\b", "Exact\\b", "\\bstatic\\s*\\{", "\\bMAX_VALUE\\b", "\\bMIN_VALUE\\b"};
        for (String pattern : barred) {
            Check.due("the source has " + pattern, Pattern.compile(pattern).matcher(code).find(), false);
        }
        for (String line : code.split("\n")) {
            if (line.startsWith("import ")) {
                boolean isListed = line.equals("import java.util.Arrays;")
                        || line.equals("import java.util.NoSuchElementException;");
                Check.due(line, isListed, true);
            }
        }
    }
}
