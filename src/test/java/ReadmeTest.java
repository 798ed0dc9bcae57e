import java.lang.reflect.Method;
import java.lang.reflect.Modifier;
import java.nio.file.Files;
import java.nio.file.Path;
import java.util.ArrayList;
import java.util.List;
import java.util.stream.Stream;

/** README.md shows what is so: its example runs as it says, and it names every call and every test. */
final class ReadmeTest {
    private ReadmeTest() {
    }

    public static void main(String[] args) throws Exception {
        String readme = Files.readString(Path.of("README.md"));
        example();
        exampleIsThere(readme);
        textOfTerms();
        callsAreNamed(readme);
        testsAreNamed(readme);
        Check.finish("ReadmeTest");
    }

    private static void example() {
        // the example begins
        BridgePaint paint = new BridgePaint();
        int bay = paint.bay(0, 3, 8, 300);          // side 0, height 3, 8 hours of work, steel 300
        int gang = paint.gang(2);                   // skill 2
        int batch = paint.batch(10, 4, 128);        // 10 tins, lead 4, colour 128
        paint.feed(0x73746f70, 0x20696620, 0x77657400, 0, 0);   // "stop if wet", twenty bytes a call, the highest first
        paint.end(11);                              // the tape has these eleven bytes alone
        int terms = paint.terms();                  // reads the tape
        int job = paint.job(terms, bay, gang, batch, 24);       // from day 2, hour 0 on
        int end = paint.look(job, 4);               // 28: the moment behind its last one
        // the example ends
        Check.due("bay", bay, 0);
        Check.due("gang", gang, 0);
        Check.due("batch", batch, 0);
        Check.due("terms", terms, 0);
        Check.due("job", job, 0);
        Check.due("end", end, 28);
        Check.due("day 2, hour 0", paint.look(job, 3), 2 * 12);
        Check.due("not wet", paint.why(terms, bay, 2, 0), 0);
        paint.weather(2, 2, 0, 0, -1, 10);
        Check.due("wet", paint.why(terms, bay, 2, 0), 2);
    }

    private static void exampleIsThere(String readme) throws Exception {
        List<String> lines = Files.readAllLines(Path.of("src/test/java/ReadmeTest.java"));
        List<String> shown = new ArrayList<>();
        boolean isExample = false;
        for (String line : lines) {
            if (line.strip().equals("// the example ends")) {
                isExample = false;
            }
            if (isExample) {
                shown.add(line.strip());
            }
            if (line.strip().equals("// the example begins")) {
                isExample = true;
            }
        }
        Check.due("lines of the example", shown.size(), 9);
        String block = "```java\n" + String.join("\n", shown) + "\n```";
        Check.due("README.md shows the example", readme.contains(block), true);
    }

    private static void textOfTerms() throws Exception {
        String text = "stop if wind > 5 or wet; dry 6 if heat < 8; holds 20; pay 9 if hour > 6";
        BridgePaint paint = new BridgePaint();
        Check.due("terms", Check.terms(paint, text), 0);
        Check.due("fault", paint.fault(), BridgePaint.NONE);
        Check.due("README.md shows the text", Files.readString(Path.of("README.md")).contains(text), true);
    }

    private static void callsAreNamed(String readme) {
        for (Method method : BridgePaint.class.getDeclaredMethods()) {
            if (Modifier.isPublic(method.getModifiers())) {
                String name = method.getName();
                Check.due("README.md names " + name, readme.contains("`" + name + "`"), true);
            }
        }
    }

    private static void testsAreNamed(String readme) throws Exception {
        int found = 0;
        try (Stream<Path> files = Files.list(Path.of("src/test/java"))) {
            for (Path file : (Iterable<Path>) files::iterator) {
                String name = file.getFileName().toString().replace(".java", "");
                if (name.endsWith("Test")) {
                    found++;
                    Check.due("README.md names " + name, readme.contains("| `" + name + "` |"), true);
                }
            }
        }
        Check.due("rows of tests", readme.split("\\| `[A-Za-z]+Test` \\|", -1).length - 1, found);
    }
}
