import java.io.IOException;
import java.nio.file.Files;
import java.nio.file.Path;
import java.util.ArrayList;
import java.util.List;
import java.util.regex.Matcher;
import java.util.regex.Pattern;

/**
 * Makes a test of the example in README.md: every call that it shows, in the order in which it shows them, with the
 * answer that it names. The calls are copied as they stand, so they must compile as well.
 */
public final class ReadmeExample {
    private static final String BEGIN = "```java";
    private static final String END = "```";
    private static final String OBJECT = "SnoringDukes dukes = new SnoringDukes();";
    // A call, then "// 4", "// 4: why", "// throws SomeException" or "// throws SomeException: why".
    private static final Pattern CALL = Pattern.compile(
        "(dukes\\.\\w+\\([^()]*\\));\\s+// (?:(-?\\d+)|throws (\\w+))(?:: .*)?");

    public static void main(String[] args) throws IOException {
        Path readme = Path.of(args[0]);
        Path test = Path.of(args[1]);
        String name = test.getFileName().toString().replace(".java", "");
        Files.createDirectories(test.toAbsolutePath().getParent());
        Files.writeString(test, testOf(name, exampleIn(Files.readAllLines(readme))));
    }

    /** There must be just one, so that none goes untested. */
    private static List<String> exampleIn(List<String> readme) {
        List<String> example = new ArrayList<>();
        int examples = 0;
        boolean inside = false;
        for (String line : readme) {
            if (line.equals(BEGIN)) {
                examples++;
                inside = true;
            } else if (line.equals(END)) {
                inside = false;
            } else if (inside && !line.isBlank()) {
                example.add(line.strip());
            }
        }
        if (examples != 1) {
            throw new IllegalStateException("README.md shows " + examples + " examples in Java, due is 1");
        }
        return example;
    }

    private static String testOf(String name, List<String> example) {
        if (example.size() < 2 || !example.get(0).equals(OBJECT)) {
            throw new IllegalStateException("README.md's example must begin with " + OBJECT + " and go on with calls");
        }
        StringBuilder text = new StringBuilder();
        text.append("public final class ").append(name).append(" {\n");
        text.append("    public static void main(String[] args) {\n");
        text.append("        Check check = new Check(\"").append(name).append("\");\n");
        text.append("        ").append(OBJECT).append("\n");
        for (String line : example.subList(1, example.size())) {
            text.append("        ").append(checkOf(line)).append("\n");
        }
        text.append("        check.end();\n    }\n}\n");
        return text.toString();
    }

    private static String checkOf(String line) {
        Matcher call = CALL.matcher(line);
        if (!call.matches()) {
            throw new IllegalStateException("README.md's example shows no call with its answer here: " + line);
        }
        String asked = call.group(1);
        if (call.group(2) != null) {
            return "check.due(\"" + asked + "\", " + asked + ", " + call.group(2) + ");";
        }
        return "check.dueThrow(\"" + asked + "\", " + call.group(3) + ".class, () -> " + asked + ");";
    }
}
