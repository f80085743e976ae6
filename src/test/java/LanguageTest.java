import java.io.IOException;
import java.nio.file.Files;
import java.nio.file.Path;
import java.util.ArrayList;
import java.util.HashMap;
import java.util.List;
import java.util.Map;
import java.util.TreeSet;
import java.util.regex.Matcher;
import java.util.regex.Pattern;

/** Rules 6, 7, 8, 9, 11 and 12 of LANGUAGE.md, as far as they can be read off the text, method by method. */
public final class LanguageTest {
    private static final Path SOURCE = Path.of("src/main/java/PinBarrel.java");
    private static final int MOST_LINES = 60;
    private static final int MOST_CALLS_DEEP = 8;
    private static final Check check = new Check();

    /** A method or a constructor; those of one name are taken together where calls are followed. */
    private record Part(String name, boolean isConstructor, int lines, String body) {
    }

    private static final List<Part> parts = new ArrayList<>();
    private static final Map<String, TreeSet<String>> calls = new HashMap<>();

    public static void main(String[] args) throws IOException {
        readParts(withoutCommentsAndTexts(Files.readString(SOURCE)));
        readCalls();
        for (Part part : parts) {
            check.about(part.name);
            check.due("short", part.lines <= MOST_LINES, true);
            objects(part);
            exceptions(part);
            loops(part);
            check.due("calls at most eight deep, and never itself", depth(part.name, 1) <= MOST_CALLS_DEEP, true);
        }
        check.about("");
        allPartsFound();
        check.end();
    }

    /** Lines stay, so that those of a method can be counted. */
    private static String withoutCommentsAndTexts(String source) {
        return source.replaceAll("/\\*[^\n]*?\\*/", "").replaceAll("//[^\n]*", "")
                .replaceAll("\"(\\\\.|[^\"\\\\])*\"", "\"\"").replaceAll("'(\\\\.|[^'\\\\])'", "' '");
    }

    /** A header stands at the indent of its class, or of a class inside; its body ends at the brace of that indent. */
    private static void readParts(String code) {
        Matcher header = Pattern.compile("(?m)^( {4}| {8})(?! )(?:(?:public|private|static|final) )*(?:[\\w\\[\\]]+ )?(\\w+)\\([^;{}]*\\{\n")
                .matcher(code);
        while (header.find()) {
            String indent = header.group(1);
            String name = header.group(2);
            if (List.of("if", "for", "while", "switch").contains(name)) {
                continue;
            }
            int end = code.indexOf("\n" + indent + "}\n", header.end() - 1);
            String whole = code.substring(header.start(), end);
            boolean isConstructor = Character.isUpperCase(name.charAt(0));
            parts.add(new Part(name, isConstructor, (int) whole.lines().count() + 1, code.substring(header.end(), Math.max(header.end(), end))));
        }
    }

    private static void readCalls() {
        for (Part part : parts) {
            calls.computeIfAbsent(part.name, name -> new TreeSet<>());
        }
        for (Part part : parts) {
            Matcher call = Pattern.compile("(\\w+)\\(").matcher(part.body);
            while (call.find()) {
                if (calls.containsKey(call.group(1))) {
                    calls.get(part.name).add(call.group(1));
                }
            }
        }
    }

    private static int depth(String name, int above) {
        int deepest = above;
        for (String called : calls.get(name)) {
            if (deepest <= MOST_CALLS_DEEP) {
                deepest = Math.max(deepest, depth(called, above + 1));
            }
        }
        return deepest;
    }

    /** Rule 12, and the room: only constructors make rows, only row() a text. */
    private static void objects(Part part) {
        Matcher made = Pattern.compile("(throw )?\\bnew (\\w+)").matcher(part.body);
        while (made.find()) {
            boolean isText = part.name.equals("row") && made.group(2).equals("StringBuilder");
            check.due("makes " + made.group(2), made.group(1) != null || part.isConstructor || isText, true);
        }
        check.due("copies", Pattern.compile("\\bclone\\(|\\bcopyOf|\\btoCharArray\\(").matcher(part.body).find(), false);
    }

    /** Rule 6. */
    private static void exceptions(Part part) {
        Matcher thrown = Pattern.compile("\\bthrow\\b([^;]*);").matcher(part.body);
        while (thrown.find()) {
            check.due("throws in a constructor", part.isConstructor, false);
            check.due("throws" + thrown.group(1), thrown.group(1)
                    .matches(" new (IndexOutOfBounds|IllegalArgument|IllegalState)Exception\\(\"\"\\)"), true);
        }
    }

    /** Rules 7 and 9: a loop has a bound in its own line, and what is divided by is a constant or looked at. */
    private static void loops(Part part) {
        Matcher loop = Pattern.compile("\\b(for|while) \\((.*)\\) \\{").matcher(part.body);
        while (loop.find()) {
            String bound = loop.group(1).equals("for") ? loop.group(2).split(";", -1)[1] : loop.group(2);
            check.due("the loop " + loop.group(2) + " has a bound", bound.matches(".*[<>].*"), true);
        }
        Matcher divided = Pattern.compile("[/%] ([^;]*)").matcher(part.body);
        while (divided.find()) {
            String divisor = divided.group(1);
            boolean isConstant = divisor.matches("(PITCHES|PLACES|MOST_SOUNDS|[1-9][\\d.]*)\\b.*");
            boolean isDouble = divisor.matches("\\(double\\) .*");
            check.due("divides by " + divisor, isConstant || isDouble, true);
        }
    }

    /** That the text is read as it is meant: a method that is not found would not be looked at. */
    private static void allPartsFound() {
        List<Class<?>> classes = new ArrayList<>(List.of(PinBarrel.class));
        classes.addAll(List.of(PinBarrel.class.getDeclaredClasses()));
        int many = 0;
        for (Class<?> one : classes) {
            many += one.getDeclaredMethods().length + one.getDeclaredConstructors().length;
        }
        check.due("methods and constructors found", parts.size(), many);
    }
}
