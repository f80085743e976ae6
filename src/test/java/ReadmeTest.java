import java.io.IOException;
import java.lang.reflect.Method;
import java.lang.reflect.Modifier;
import java.nio.file.Files;
import java.nio.file.Path;

/** What README.md tells of the class, so that it stays true. */
public final class ReadmeTest {
    private static final Check check = new Check();

    public static void main(String[] args) throws IOException {
        String readme = Files.readString(Path.of("README.md"));
        example(readme);
        table(readme);
        tests(readme);
        check.end();
    }

    private static void example(String readme) {
        PinBarrel box = new PinBarrel();
        told(readme, "box.tooth(20);              // TOOTH 0,", box.tooth(20), 0);
        int tune = box.tune();
        told(readme, "int tune = box.tune();      // an empty TUNE", box.ofTune(tune, 0), 0);
        told(readme, "box.note(tune, 4, 20);      // a NOTE", box.note(tune, 4, 20), 1);
        told(readme, "box.pin(tune, 0, 0);        // into the LINES 0, in its own key: none is LOST", box.pin(tune, 0, 0), 0);
        told(readme, "box.wind(500);\n", box.wind(500), 500);
        told(readme, "box.play(64);               // one SOUND", box.play(64), 1);
        told(readme, "box.heard(0);               // its PITCH: 20", box.heard(0), 20);
        told(readme, "box.when(0);                // and when, to the nearest eighth: 0.5", box.when(0), 0.5);
    }

    private static void told(String readme, String line, Object got, Object want) {
        check.due("README.md holds " + line, readme.contains(line), true);
        check.due(line, got, want);
    }

    private static void table(String readme) {
        for (Method method : PinBarrel.class.getDeclaredMethods()) {
            if (Modifier.isPublic(method.getModifiers())) {
                check.due("the table names " + method.getName(), readme.contains("`" + method.getName() + "("), true);
            }
        }
    }

    private static void tests(String readme) throws IOException {
        try (var files = Files.list(Path.of("src/test/java"))) {
            for (Path file : files.sorted().toList()) {
                String name = file.getFileName().toString().replace(".java", "");
                check.due("README.md names " + name, readme.contains("`" + name + "`"), true);
            }
        }
    }
}
