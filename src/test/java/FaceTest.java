import java.io.IOException;
import java.lang.reflect.Constructor;
import java.lang.reflect.Field;
import java.lang.reflect.Method;
import java.lang.reflect.Modifier;
import java.nio.file.Files;
import java.nio.file.Path;
import java.util.ArrayList;
import java.util.Arrays;
import java.util.Collections;
import java.util.List;

/** The public face is the document's, with nothing more and nothing less. */
public final class FaceTest {
    private static final String[] FACE = {
        "int berthOf(int)",
        "int changes()",
        "int coach(int, int, int) throws IllegalArgumentException, IllegalStateException",
        "int come(int) throws IllegalArgumentException, IllegalStateException",
        "int comparisons()",
        "int comparisonsToEmpty()",
        "int dukeIn(int) throws IndexOutOfBoundsException",
        "int dukes()",
        "int elderOf(int) throws IndexOutOfBoundsException",
        "int fetch(int) throws IndexOutOfBoundsException",
        "int flipped()",
        "int followersOf(int) throws IndexOutOfBoundsException",
        "int hush(int, int) throws IndexOutOfBoundsException, IllegalArgumentException",
        "int leave() throws IllegalStateException",
        "int leavesAt(int) throws IndexOutOfBoundsException",
        "int loudnessIn(int) throws IndexOutOfBoundsException",
        "int quieterThan(int) throws IndexOutOfBoundsException",
        "int quietest()",
        "int sideOf(int) throws IndexOutOfBoundsException",
    };

    private static final String[] SECTIONS = {
        "public SnoringDukes(",
        "---- dukes come and go",
        "public int come(", "public int coach(", "public int leave(", "public int hush(", "public int fetch(",
        "---- how they lie",
        "public int dukes(", "public int quietest(", "public int berthOf(", "public int dukeIn(",
        "public int loudnessIn(", "public int sideOf(", "public int elderOf(", "public int followersOf(",
        "public int flipped(",
        "---- what it cost, and would cost",
        "public int comparisons(", "public int changes(", "public int comparisonsToEmpty(", "public int leavesAt(",
        "public int quieterThan(",
    };

    public static void main(String[] args) throws IOException {
        Check check = new Check("FaceTest");
        checkClass(check);
        checkConstructors(check);
        checkMethods(check);
        checkFields(check);
        checkSections(check);
        check.end();
    }

    /** "public final class SnoringDukes", which extends and implements nothing, nor shows a class of its own. */
    private static void checkClass(Check check) {
        check.due("modifiers of the class", SnoringDukes.class.getModifiers(), Modifier.PUBLIC | Modifier.FINAL);
        check.dueTrue("the class extends nothing", SnoringDukes.class.getSuperclass() == Object.class);
        check.due("how many interfaces", SnoringDukes.class.getInterfaces().length, 0);
        check.due("how many public classes inside", SnoringDukes.class.getClasses().length, 0);
        check.dueTrue("the class has no package", SnoringDukes.class.getPackageName().isEmpty());
    }

    private static void checkConstructors(Check check) {
        Constructor<?>[] constructors = SnoringDukes.class.getDeclaredConstructors();
        check.due("how many constructors", constructors.length, 1);
        check.dueTrue("the constructor is public, without parameters",
            constructors[0].getModifiers() == Modifier.PUBLIC && constructors[0].getParameterCount() == 0);
        check.due("what the constructor throws", constructors[0].getExceptionTypes().length, 0);
    }

    private static void checkMethods(Check check) {
        List<String> face = new ArrayList<>();
        List<String> publicNames = new ArrayList<>();
        List<String> privateNames = new ArrayList<>();
        for (Method method : SnoringDukes.class.getDeclaredMethods()) {
            if (Modifier.isPrivate(method.getModifiers())) {
                privateNames.add(method.getName());
            } else {
                face.add(describe(method));
                publicNames.add(method.getName());
                check.due("modifiers of " + method.getName(), method.getModifiers(), Modifier.PUBLIC);
            }
        }
        Collections.sort(face);
        check.dueTrue("the face is the document's, not " + face, face.equals(Arrays.asList(FACE)));
        check.dueTrue("no private method bears a public name", Collections.disjoint(publicNames, privateNames));
    }

    private static void checkFields(Check check) {
        for (Field field : SnoringDukes.class.getDeclaredFields()) {
            int modifiers = field.getModifiers();
            check.dueTrue(field.getName() + " is private", Modifier.isPrivate(modifiers));
            check.dueTrue(field.getName() + " is final, if static",
                !Modifier.isStatic(modifiers) || Modifier.isFinal(modifiers));
        }
    }

    /** "Ahead of the calls .. the interface says: ---- ..": sections and calls stand in the document's order. */
    private static void checkSections(Check check) throws IOException {
        String text = Files.readString(Path.of("src", "main", "java", "SnoringDukes.java"));
        int before = -1;
        for (String line : SECTIONS) {
            int at = text.indexOf(line, before + 1);
            check.dueTrue("after what stands before it in the document comes: " + line, at >= 0);
            before = Math.max(before, at);
        }
    }

    private static String describe(Method method) {
        String thrown = names(method.getExceptionTypes());
        return method.getReturnType().getSimpleName() + " " + method.getName()
            + "(" + names(method.getParameterTypes()) + ")" + (thrown.isEmpty() ? "" : " throws " + thrown);
    }

    private static String names(Class<?>[] types) {
        List<String> names = new ArrayList<>();
        for (Class<?> type : types) {
            names.add(type.getSimpleName());
        }
        return String.join(", ", names);
    }
}
