import java.io.IOException;
import java.lang.reflect.Constructor;
import java.lang.reflect.Field;
import java.lang.reflect.Method;
import java.lang.reflect.Modifier;
import java.nio.file.Files;
import java.nio.file.Path;
import java.util.ArrayList;
import java.util.Arrays;
import java.util.List;
import java.util.regex.Matcher;
import java.util.regex.Pattern;

/** What LANGUAGE.md asks of the one file, as far as its text and its classes show it. Run from the project's root. */
public final class LanguageTest {
    private static final Path MAIN = Path.of("src", "main", "java");
    private static final Path FILE = MAIN.resolve("SnoringDukes.java");
    private static final int MOST_CLASSES = 12;
    private static final int MOST_FIELDS = 20;
    private static final int MOST_PARAMETERS = 7;
    private static final int MOST_LINES = 60;

    /** The file's own classes, what rule 4 lists, and the exceptions of rule 6. */
    private static final List<String> NAMES = List.of(
        "SnoringDukes", "WeakHeap",
        "String", "StringBuilder", "ArrayList", "List", "Integer", "Long", "Math", "Iterator", "Iterable", "Comparable",
        "System", "Arrays",
        "IllegalStateException", "IllegalArgumentException", "IndexOutOfBoundsException", "ArithmeticException",
        "UnsupportedOperationException", "NoSuchElementException", "RuntimeException");
    private static final String[] NOT_ADMITTED = {
        "\\bpackage\\b", "\\bfinally\\b", "\\bsynchronized\\b", "\\bassert\\b", "\\bprotected\\b", "\\bvolatile\\b",
        "\\bnative\\b", "\\btransient\\b", "\\bstrictfp\\b", "->", "::", "@\\w+", "\\w+Exact\\b",
        "System\\.(?!arraycopy\\b)", "\\bstatic\\s*\\{", "\\bimport\\s+(?!java\\.util\\.\\w+;)",
        "\\bcatch\\s*\\(\\s*(Exception|Throwable|Error|RuntimeException)\\b",
    };

    private static final Check check = new Check("LanguageTest");

    public static void main(String[] args) throws IOException {
        thereIsOneFile();
        String text = Files.readString(FILE);
        theSignsAreAscii(text);
        String code = withoutCommentsAndTexts(text);
        onlyAdmittedNames(code);
        nothingThatIsNotAdmitted(code);
        exceptionsAreThrownWithAWrittenText(text);
        methodsStayShort(text);
        classesStaySmall();
        check.end();
    }

    /** "The program is one file." */
    private static void thereIsOneFile() throws IOException {
        try (var files = Files.walk(MAIN)) {
            List<Path> found = files.filter(Files::isRegularFile).toList();
            check.dueTrue("the one file is SnoringDukes.java, not " + found, found.equals(List.of(FILE)));
        }
    }

    /** Rule 4: "whose signs are 1 to 127". */
    private static void theSignsAreAscii(String text) {
        check.dueTrue("all signs are 1 to 127", text.chars().allMatch(sign -> sign >= 1 && sign <= 127));
    }

    private static String withoutCommentsAndTexts(String text) {
        return text.replaceAll("(?s)/\\*.*?\\*/", " ").replaceAll("//[^\n]*", " ").replaceAll("\"[^\"\n]*\"", "\"\"");
    }

    /** Rules 3, 4 and 6, and with them 13: a name that begins like a class's, and is no constant's. */
    private static void onlyAdmittedNames(String code) {
        Matcher name = Pattern.compile("\\b[A-Z]\\w*[a-z]\\w*").matcher(code);
        while (name.find()) {
            check.dueTrue("the name " + name.group() + " is admitted", NAMES.contains(name.group()));
        }
    }

    /** Rules 2, 4, 5 and 6, and what the task says of catching. */
    private static void nothingThatIsNotAdmitted(String code) {
        for (String refused : NOT_ADMITTED) {
            Matcher found = Pattern.compile(refused).matcher(code);
            check.dueTrue("there is no " + refused, !found.find());
        }
    }

    /** Rule 6: "throw new E() or throw new E("a written text")". */
    private static void exceptionsAreThrownWithAWrittenText(String text) {
        Matcher thrown = Pattern.compile("\\bthrow\\b[^;]*;").matcher(text);
        while (thrown.find()) {
            check.dueTrue(thrown.group() + " has a written text alone",
                thrown.group().matches("throw new \\w+Exception\\((\"[^\"]*\")?\\);"));
        }
    }

    /** Rule 11: "some sixty lines", told by how the file is laid out: a brace beneath its head ends a method. */
    private static void methodsStayShort(String text) {
        String[] lines = text.split("\n");
        for (int head = 0; head < lines.length; head++) {
            Matcher method = Pattern.compile("( +)[^=;]*\\([^;]*\\{").matcher(lines[head]);
            if (!method.matches() || method.group(1).length() > 8) {
                continue;
            }
            int end = head;
            while (end < lines.length && !lines[end].equals(method.group(1) + "}")) {
                end++;
            }
            check.dueTrue(lines[head].strip() + " ends within " + MOST_LINES + " lines", end - head < MOST_LINES);
        }
    }

    private static List<Class<?>> classesOfTheFile() {
        List<Class<?>> classes = new ArrayList<>();
        classes.add(SnoringDukes.class);
        for (int i = 0; i < classes.size(); i++) {
            classes.addAll(Arrays.asList(classes.get(i).getDeclaredClasses()));
        }
        return classes;
    }

    /** Rules 1, 2, 5 and 11. */
    private static void classesStaySmall() {
        List<Class<?>> classes = classesOfTheFile();
        check.dueTrue("no more than " + MOST_CLASSES + " classes", classes.size() <= MOST_CLASSES);
        for (Class<?> one : classes) {
            String name = one.getSimpleName();
            int modifiers = one.getModifiers();
            check.dueTrue(name + " is the face, or not seen from outside",
                one == SnoringDukes.class || !Modifier.isPublic(modifiers) && !Modifier.isProtected(modifiers));
            check.dueTrue(name + " is static, if inside another",
                one == SnoringDukes.class || Modifier.isStatic(modifiers));
            fieldsOf(one);
            for (Method method : one.getDeclaredMethods()) {
                check.dueTrue(name + "." + method.getName() + " takes no more than " + MOST_PARAMETERS,
                    method.getParameterCount() <= MOST_PARAMETERS);
            }
            for (Constructor<?> constructor : one.getDeclaredConstructors()) {
                check.due(name + ": exceptions of its constructor", constructor.getExceptionTypes().length, 0);
            }
        }
    }

    private static void fieldsOf(Class<?> one) {
        int fields = 0;
        for (Field field : one.getDeclaredFields()) {
            boolean isStatic = Modifier.isStatic(field.getModifiers());
            fields += isStatic ? 0 : 1;
            check.dueTrue(one.getSimpleName() + "." + field.getName() + " is final, if static",
                !isStatic || Modifier.isFinal(field.getModifiers()));
        }
        check.dueTrue(one.getSimpleName() + " has no more than " + MOST_FIELDS + " fields", fields <= MOST_FIELDS);
    }
}
