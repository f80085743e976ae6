import java.io.IOException;
import java.lang.reflect.Field;
import java.lang.reflect.Method;
import java.lang.reflect.Modifier;
import java.nio.file.Files;
import java.nio.file.Path;
import java.util.ArrayList;
import java.util.Arrays;
import java.util.List;
import java.util.TreeSet;
import java.util.regex.Matcher;
import java.util.regex.Pattern;

/** The public face against that of the document, and rules of LANGUAGE.md that can be read off class and text. */
public final class FaceTest {
    private static final Path SOURCE = Path.of("src/main/java/PinBarrel.java");
    private static final Path DOC = Path.of("../shared/DOC.md");
    private static final Check check = new Check();

    public static void main(String[] args) throws IOException {
        check.due("the face", face(), faceOfDocument());
        nothingElseIsSeen();
        inside();
        text(withoutCommentsAndTexts(Files.readString(SOURCE)));
        check.end();
    }

    private static TreeSet<String> faceOfDocument() throws IOException {
        TreeSet<String> face = new TreeSet<>();
        String text = Files.readString(DOC);
        Matcher line = Pattern.compile("(?m)^    public (\\w+) (\\w+)\\((.*?)\\)( throws (.*))?;$").matcher(text);
        while (line.find()) {
            List<String> types = new ArrayList<>();
            for (String parameter : line.group(3).isEmpty() ? new String[0] : line.group(3).split(", ")) {
                types.add(parameter.split(" ")[0]);
            }
            String exceptions = line.group(5) == null ? "" : line.group(5);
            face.add(line.group(1) + " " + line.group(2) + types + " throws " + exceptions);
        }
        return face;
    }

    private static TreeSet<String> face() {
        TreeSet<String> face = new TreeSet<>();
        for (Method method : PinBarrel.class.getDeclaredMethods()) {
            if (!Modifier.isPrivate(method.getModifiers())) {
                check.due(method + " is public and no more", method.getModifiers(), Modifier.PUBLIC);
                face.add(method.getReturnType().getSimpleName() + " " + method.getName()
                        + names(method.getParameterTypes()) + " throws "
                        + String.join(", ", names(method.getExceptionTypes())));
            }
        }
        return face;
    }

    private static List<String> names(Class<?>[] types) {
        return Arrays.stream(types).map(Class::getSimpleName).toList();
    }

    private static void nothingElseIsSeen() {
        check.due("class", PinBarrel.class.getModifiers(), Modifier.PUBLIC | Modifier.FINAL);
        check.due("over it", PinBarrel.class.getSuperclass(), Object.class);
        check.due("interfaces", PinBarrel.class.getInterfaces().length, 0);
        check.due("constructors", PinBarrel.class.getDeclaredConstructors().length, 1);
        check.due("public constructors", PinBarrel.class.getConstructors().length, 1);
        for (Field field : PinBarrel.class.getDeclaredFields()) {
            check.due(field + " is private", Modifier.isPrivate(field.getModifiers()), true);
        }
    }

    /** Rules 1, 5 and 11. */
    private static void inside() {
        TreeSet<String> publicNames = new TreeSet<>();
        for (Method method : PinBarrel.class.getMethods()) {
            publicNames.add(method.getName());
        }
        List<Class<?>> classes = new ArrayList<>(List.of(PinBarrel.class));
        classes.addAll(List.of(PinBarrel.class.getDeclaredClasses()));
        check.due("at most 12 classes", classes.size() <= 12, true);
        for (Class<?> one : classes) {
            int fields = 0;
            for (Field field : one.getDeclaredFields()) {
                boolean isStatic = Modifier.isStatic(field.getModifiers());
                check.due(field + " is final if static", !isStatic || Modifier.isFinal(field.getModifiers()), true);
                fields += isStatic ? 0 : 1;
            }
            check.due(one + " has at most 20 fields", fields <= 20, true);
            for (Method method : one.getDeclaredMethods()) {
                check.due(method + " has at most 7 parameters", method.getParameterCount() <= 7, true);
                boolean isFace = one == PinBarrel.class && Modifier.isPublic(method.getModifiers());
                check.due(method + " bears a name of its own", isFace || !publicNames.contains(method.getName()), true);
            }
        }
    }

    private static String withoutCommentsAndTexts(String source) {
        return source.replaceAll("(?s)/\\*.*?\\*/", "").replaceAll("//.*", "")
                .replaceAll("\"(\\\\.|[^\"\\\\])*\"", "\"\"").replaceAll("'(\\\\.|[^'\\\\])'", "' '");
    }

    private static void text(String code) {
        for (String not : List.of("\\bimport\\b", "\\bpackage\\b", "->", "::", "\\bfinally\\b", "\\bsynchronized\\b",
                "\\bassert\\b", "\\btry\\b", "\\bcatch\\b", "\\bthrow (?!new Il|new In)", "Exact\\b", "\\bSystem\\.(?!arraycopy)",
                "\\bMath\\.(?!min\\b|max\\b)", "\\bLong\\.(?!bitCount\\b)", "\"\" *\\+", "\\+ *\"\"",
                "\\bjava\\.", "\\bObject\\b", "\\bnull\\b", "while \\(true\\)", "for \\(;;\\)")) {
            Matcher found = Pattern.compile(not).matcher(code);
            check.due("the text has " + not, found.find() ? found.group() : null, null);
        }
        check.due("ASCII alone", code.chars().allMatch(sign -> sign < 128), true);
    }
}
