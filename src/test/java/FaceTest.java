import java.lang.reflect.Constructor;
import java.lang.reflect.Field;
import java.lang.reflect.Method;
import java.lang.reflect.Modifier;
import java.nio.file.Files;
import java.nio.file.Path;
import java.util.ArrayList;
import java.util.Collections;
import java.util.HashSet;
import java.util.List;
import java.util.Set;
import java.util.regex.Pattern;

/** The class has the document's face and no other, and keeps to the rules that can be read off it. */
final class FaceTest {
    /** As the document writes it. */
    private static final String[] FACE = {
        "int feed(int a, int b, int c, int d, int e)",
        "boolean end(int n)",
        "int days(int n) throws IllegalArgumentException",
        "int bay(int side, int height, int need, int steel) throws IllegalArgumentException,"
                + " UnsupportedOperationException",
        "int weather(int fromDay, int toDay, int fromHour, int toHour, int wind, int heat) throws"
                + " IndexOutOfBoundsException, IllegalArgumentException, UnsupportedOperationException",
        "void trains(int hours) throws IllegalArgumentException",
        "int span(boolean strike, int from, int to) throws IndexOutOfBoundsException,"
                + " IllegalArgumentException, UnsupportedOperationException",
        "int nest(int bay, int from, int to) throws IndexOutOfBoundsException, IllegalArgumentException,"
                + " UnsupportedOperationException",
        "int terms() throws IllegalArgumentException, UnsupportedOperationException",
        "int fault()",
        "int why(int terms, int bay, int day, int hour) throws IndexOutOfBoundsException",
        "int at(int terms, int bay, int day, int hour, int what) throws IndexOutOfBoundsException,"
                + " NoSuchElementException",
        "int hours(int terms, int bay, int from, int to, int what) throws IndexOutOfBoundsException,"
                + " IllegalArgumentException, NoSuchElementException",
        "int gang(int skill) throws IllegalArgumentException, UnsupportedOperationException",
        "int batch(int tins, int lead, int colour) throws IllegalArgumentException,"
                + " UnsupportedOperationException",
        "int ends(int terms, int bay, int gang, int moment) throws IndexOutOfBoundsException",
        "boolean may(int bay, int moment) throws IndexOutOfBoundsException",
        "int job(int terms, int bay, int gang, int batch, int moment) throws IndexOutOfBoundsException,"
                + " UnsupportedOperationException",
        "int look(int job, int what) throws IndexOutOfBoundsException, NoSuchElementException",
        "boolean peel(int job) throws IndexOutOfBoundsException",
        "boolean fail(int batch) throws IndexOutOfBoundsException",
        "int last(int bay, int day, int known) throws IndexOutOfBoundsException",
        "int recall(int batch, int known, boolean covered) throws IndexOutOfBoundsException",
        "int left(int batch) throws IndexOutOfBoundsException",
        "int caught(int from, int to, int known) throws IndexOutOfBoundsException, IllegalArgumentException",
        "int bare(int bay, int from, int to, int known) throws IndexOutOfBoundsException,"
                + " IllegalArgumentException",
        "void rust(int side, int least, int greatest) throws IndexOutOfBoundsException,"
                + " IllegalArgumentException",
        "int reading(int bay, int day, int steel) throws IndexOutOfBoundsException,"
                + " IllegalArgumentException, UnsupportedOperationException",
        "int steel(int bay, int day, int known, boolean most) throws IndexOutOfBoundsException",
        "int below(int bay, int limit, int known) throws IndexOutOfBoundsException, IllegalArgumentException",
        "int order(int terms, int gang, int set, int moment, int what) throws IndexOutOfBoundsException,"
                + " IllegalArgumentException, NoSuchElementException",
        "int put(int terms, int set, int moment, int bay) throws IndexOutOfBoundsException,"
                + " IllegalArgumentException",
        "void cost(int bay, int one, int two) throws IndexOutOfBoundsException, IllegalArgumentException",
        "void wear(int bay, int none, int one, int two) throws IndexOutOfBoundsException,"
                + " IllegalArgumentException",
        "int spent(int coin, int bay) throws IndexOutOfBoundsException, IllegalArgumentException",
        "long promise(int years, int h, int hard) throws IllegalArgumentException",
        "int edge(int years, int h, int hard, int always) throws IllegalArgumentException",
        "int even(int years) throws IllegalArgumentException",
        "int peels(int gang, int known, boolean all) throws IndexOutOfBoundsException",
        "int worst(int known) throws IndexOutOfBoundsException",
        "int risk(int job) throws IndexOutOfBoundsException",
        "int match(int colour, int known) throws IndexOutOfBoundsException, IllegalArgumentException",
        "int bolt(int bay, int day) throws IndexOutOfBoundsException",
        "int finds(int bay, int from, int to) throws IndexOutOfBoundsException, IllegalArgumentException",
        "int thick()",
        "void image()",
        "boolean back()",
        "int count(int what)"
    };

    private FaceTest() {
    }

    public static void main(String[] args) throws Exception {
        methods();
        asTheDocumentWritesIt();
        otherMembers();
        nestedClasses();
        source();
        Check.finish("FaceTest");
    }

    private static String signature(Method method) {
        String text = method.getReturnType().getName() + " " + method.getName()
                + "(" + names(method.getParameterTypes()) + ")";
        String thrown = names(method.getExceptionTypes());
        return thrown.isEmpty() ? text : text + " throws " + thrown;
    }

    private static String names(Class<?>[] kinds) {
        List<String> names = new ArrayList<>();
        for (Class<?> kind : kinds) {
            names.add(kind.getSimpleName());
        }
        return String.join(", ", names);
    }

    /** The document's line without the names of the parameters. */
    private static String signature(String told) {
        return told.replaceAll("\\b(int|boolean) \\w+(?=[,)])", "$1");
    }

    private static void methods() {
        List<String> found = new ArrayList<>();
        Set<String> names = new HashSet<>();
        for (Method method : BridgePaint.class.getDeclaredMethods()) {
            if (Modifier.isPublic(method.getModifiers())) {
                Check.due(method + " is static", Modifier.isStatic(method.getModifiers()), false);
                found.add(signature(method));
                names.add(method.getName());
            }
        }
        List<String> due = new ArrayList<>();
        for (String told : FACE) {
            due.add(signature(told));
        }
        Collections.sort(due);
        Collections.sort(found);
        Check.due("the face " + found + " is " + due, found.equals(due), true);
        for (Method method : BridgePaint.class.getDeclaredMethods()) {
            if (!Modifier.isPublic(method.getModifiers())) {
                Check.due(method + " is private", Modifier.isPrivate(method.getModifiers()), true);
                Check.due(method + " bears a name of the face", names.contains(method.getName()), false);
            }
        }
    }

    /** Names of parameters too, which the compiled methods do not tell. */
    private static void asTheDocumentWritesIt() throws Exception {
        String program = Files.readString(Path.of("src/main/java/BridgePaint.java")).replaceAll("\\s+", " ");
        for (String told : FACE) {
            Check.due("the program has " + told, program.contains(" public " + told + " { "), true);
        }
        Check.due("constructor", program.contains(" public BridgePaint() { "), true);
        Check.due("constant", program.contains(" public static final int NONE = -1; "), true);
    }

    private static void otherMembers() throws Exception {
        int modifiers = BridgePaint.class.getModifiers();
        Check.due("public", Modifier.isPublic(modifiers), true);
        Check.due("final", Modifier.isFinal(modifiers), true);
        Check.due("no package", BridgePaint.class.getPackageName().isEmpty(), true);
        for (Field field : BridgePaint.class.getDeclaredFields()) {
            boolean isNone = field.getName().equals("NONE");
            Check.due(field + " is private", Modifier.isPrivate(field.getModifiers()), !isNone);
            if (isNone) {
                Check.due("NONE", field.getInt(null), -1);
                Check.due("NONE is public static final",
                        field.getModifiers(), Modifier.PUBLIC | Modifier.STATIC | Modifier.FINAL);
            }
        }
        Constructor<?>[] constructors = BridgePaint.class.getDeclaredConstructors();
        Check.due("constructors", constructors.length, 1);
        Check.due("public constructor", Modifier.isPublic(constructors[0].getModifiers()), true);
        Check.due("its parameters", constructors[0].getParameterCount(), 0);
    }

    private static void nestedClasses() {
        Class<?>[] nested = BridgePaint.class.getDeclaredClasses();
        Check.due("some twelve classes", nested.length <= 11, true);
        Set<String> names = new HashSet<>();
        for (String signature : FACE) {
            names.add(signature.substring(signature.indexOf(' ') + 1, signature.indexOf('(')));
        }
        for (Class<?> inside : nested) {
            Check.due(inside + " is static", Modifier.isStatic(inside.getModifiers()), true);
            Check.due(inside + " is public", Modifier.isPublic(inside.getModifiers()), false);
            int fields = 0;
            for (Field field : inside.getDeclaredFields()) {
                boolean isStatic = Modifier.isStatic(field.getModifiers());
                fields += isStatic ? 0 : 1;
                Check.due(field + " is final if static", !isStatic || Modifier.isFinal(field.getModifiers()), true);
            }
            Check.due(inside + " has some twenty fields", fields <= 20, true);
            for (Method method : inside.getDeclaredMethods()) {
                Check.due(method + " bears a name of the face", names.contains(method.getName()), false);
                Check.due(method + " has at most seven parameters", method.getParameterCount() <= 7, true);
            }
        }
    }

    /** What LANGUAGE.md shuts out and a word of the source gives away. */
    private static void source() throws Exception {
        String text = Files.readString(Path.of("src/main/java/BridgePaint.java"));
        String code = text.replaceAll("(?s)/\\*.*?\\*/", " ").replaceAll("//[^\n]*", " ");
        String[] barred = {"->", "::", "\\bfinally\\b", "\\bsynchronized\\b", "\\bassert\\b", "\\bcatch\\b",
            "\\bpackage\\b", "\\bSystem\\.(?!arraycopy\\b)", "\\bObject\\b", "\\bequals\\b", "\\bhashCode\\b",
            "\\btoString\\b", "Exact\\b", "\\bstatic\\s*\\{", "\\bMAX_VALUE\\b", "\\bMIN_VALUE\\b"};
        for (String pattern : barred) {
            Check.due("the source has " + pattern, Pattern.compile(pattern).matcher(code).find(), false);
        }
        for (String line : code.split("\n")) {
            if (line.startsWith("import ")) {
                boolean isListed = line.equals("import java.util.Arrays;")
                        || line.equals("import java.util.NoSuchElementException;");
                Check.due(line, isListed, true);
            }
        }
    }
}
