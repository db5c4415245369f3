import java.io.IOException;
import java.lang.reflect.Field;
import java.lang.reflect.Method;
import java.lang.reflect.Modifier;
import java.nio.file.Files;
import java.nio.file.Path;
import java.util.ArrayList;
import java.util.HashMap;
import java.util.List;
import java.util.Map;
import java.util.regex.Matcher;
import java.util.regex.Pattern;

/**
 * README.md: each call stands in it in the document's words and with an example, and the examples hold. It
 * is run in the project's folder.
 */
public final class ReadmeTest {
    private static final Checks checks = new Checks();
    private static final Pattern PROMISE = Pattern.compile("\n`([^`\n]+)`: ((?:[^\n]+\n)+)");
    private static final Pattern BLOCK = Pattern.compile("```java\n(.*?)```", Pattern.DOTALL);
    private static final Pattern MADE = Pattern.compile("RepairRange (\\w+) = new RepairRange\\(\\);");
    private static final Pattern CALL = Pattern.compile("(\\w+)\\.(\\w+)\\((.*)\\);\\s+// (-?\\w+)(: .+)?");

    private static final Map<String, RepairRange> objects = new HashMap<>();

    public static void main(String[] args) throws IOException, ReflectiveOperationException {
        String readme = Files.readString(Path.of("README.md"));
        String document = Files.readString(Path.of("../shared/DOC.md"));
        quotesAreTheDocuments(document, readme);
        promisesStandInTheirWords(document, readme);
        constantsStandWithTheirValues(readme);
        examplesHold(readme);
        checks.end();
    }

    private static void quotesAreTheDocuments(String document, String readme) {
        String words = onOneLine(document);
        for (String paragraph : readme.split("\n\n")) {
            String quote = quoteIn(paragraph);
            if (!quote.isEmpty()) {
                checks.due("in the document, README.md's quote " + quote, words.contains(quote), true);
            }
        }
    }

    private static void promisesStandInTheirWords(String document, String readme) {
        int promises = 0;
        Matcher promise = PROMISE.matcher(document.substring(document.indexOf("## Promise 1:")));
        while (promise.find()) {
            promises++;
            String face = promise.group(1);
            String section = sectionOf(face, readme);
            checks.due("README.md's words for " + face, quoteIn(section), onOneLine(promise.group(2)));
            boolean example = face.startsWith("RepairRange")
                ? section.contains("new RepairRange()") : section.contains("." + nameIn(face) + "(");
            checks.due("an example in README.md for " + face, example, true);
        }
        checks.due("the document's promises", promises, 14);
    }

    private static String nameIn(String face) {
        return face.substring(face.indexOf(' ') + 1, face.indexOf('('));
    }

    private static String sectionOf(String face, String readme) {
        String heading = "\n### `" + face + "`\n";
        int start = readme.indexOf(heading);
        if (start < 0) {
            return "";
        }
        int end = readme.indexOf("\n##", start + heading.length());
        return readme.substring(start + heading.length(), end < 0 ? readme.length() : end);
    }

    private static String quoteIn(String section) {
        List<String> quoted = new ArrayList<>();
        for (String line : section.split("\n")) {
            if (line.startsWith("> ")) {
                quoted.add(line.substring(2));
            }
        }
        return onOneLine(String.join(" ", quoted));
    }

    private static String onOneLine(String words) {
        return words.strip().replaceAll("\\s+", " ");
    }

    private static void constantsStandWithTheirValues(String readme) throws IllegalAccessException {
        String table = onOneLine(readme);
        for (Field field : RepairRange.class.getDeclaredFields()) {
            if (Modifier.isPublic(field.getModifiers())) {
                String row = "| `" + field.getName() + "` | " + field.get(null) + " |";
                checks.due("README.md's row " + row, table.contains(row), true);
            }
        }
    }

    /** The examples are one run: an object that one of them makes is there for those after it. */
    private static void examplesHold(String readme) throws ReflectiveOperationException {
        Matcher block = BLOCK.matcher(readme);
        while (block.find()) {
            for (String line : block.group(1).split("\n")) {
                lineHolds(line);
            }
        }
    }

    private static void lineHolds(String line) throws ReflectiveOperationException {
        Matcher made = MADE.matcher(line);
        Matcher call = CALL.matcher(line);
        if (made.matches()) {
            boolean fresh = objects.put(made.group(1), new RepairRange()) == null;
            checks.due("README.md, a new name in " + line, fresh, true);
        } else if (call.matches()) {
            RepairRange object = objects.get(call.group(1));
            String got = answer(object, call.group(2), call.group(3));
            checks.due("README.md, " + line, got, meaning(call.group(4)));
        } else {
            checks.due("README.md, an example that can be read", line, "a new object, or a call and its answer");
        }
    }

    private static String answer(RepairRange object, String name, String arguments)
            throws ReflectiveOperationException {
        String[] words = arguments.isEmpty() ? new String[0] : arguments.split(", ");
        Object[] numbers = new Object[words.length];
        Class<?>[] types = new Class<?>[words.length];
        for (int at = 0; at < words.length; at++) {
            numbers[at] = number(words[at]);
            types[at] = int.class;
        }
        Method method = RepairRange.class.getMethod(name, types);
        return String.valueOf(method.invoke(object, numbers));
    }

    private static int number(String word) {
        return word.startsWith("0b") ? Integer.parseInt(word.substring(2), 2) : Integer.parseInt(word);
    }

    /** What is said behind a call is its answer itself or the name of a constant. */
    private static String meaning(String said) throws ReflectiveOperationException {
        boolean named = Character.isUpperCase(said.charAt(0));
        return named ? String.valueOf(RepairRange.class.getField(said).get(null)) : said;
    }
}
