import java.lang.reflect.Constructor;
import java.lang.reflect.Field;
import java.lang.reflect.Method;
import java.lang.reflect.Modifier;
import java.util.ArrayList;
import java.util.Arrays;
import java.util.Collections;
import java.util.List;

/** The public face is the document's, with nothing more and nothing less. */
public final class FaceTest {
    private static final String[] FACE = {
        "int berthOf(int)",
        "int changes()",
        "int coach(int, int, int) throws IllegalArgumentException, IllegalStateException",
        "int come(int) throws IllegalArgumentException, IllegalStateException",
        "int comparisons()",
        "int comparisonsToEmpty()",
        "int dukeIn(int) throws IndexOutOfBoundsException",
        "int dukes()",
        "int elderOf(int) throws IndexOutOfBoundsException",
        "int fetch(int) throws IndexOutOfBoundsException",
        "int flipped()",
        "int followersOf(int) throws IndexOutOfBoundsException",
        "int hush(int, int) throws IndexOutOfBoundsException, IllegalArgumentException",
        "int leave() throws IllegalStateException",
        "int leavesAt(int) throws IndexOutOfBoundsException",
        "int loudnessIn(int) throws IndexOutOfBoundsException",
        "int quieterThan(int) throws IndexOutOfBoundsException",
        "int quietest()",
        "int sideOf(int) throws IndexOutOfBoundsException",
    };

    public static void main(String[] args) {
        Check check = new Check("FaceTest");
        int modifiers = SnoringDukes.class.getModifiers();
        check.dueTrue("the class is public and final", Modifier.isPublic(modifiers) && Modifier.isFinal(modifiers));
        checkConstructors(check);
        checkMethods(check);
        checkFields(check);
        check.end();
    }

    private static void checkConstructors(Check check) {
        Constructor<?>[] constructors = SnoringDukes.class.getDeclaredConstructors();
        check.due("how many constructors", constructors.length, 1);
        check.dueTrue("the constructor is public, without parameters",
            Modifier.isPublic(constructors[0].getModifiers()) && constructors[0].getParameterCount() == 0);
    }

    private static void checkMethods(Check check) {
        List<String> face = new ArrayList<>();
        List<String> publicNames = new ArrayList<>();
        List<String> privateNames = new ArrayList<>();
        for (Method method : SnoringDukes.class.getDeclaredMethods()) {
            if (Modifier.isPrivate(method.getModifiers())) {
                privateNames.add(method.getName());
            } else {
                face.add(describe(method));
                publicNames.add(method.getName());
                check.due("modifiers of " + method.getName(), method.getModifiers(), Modifier.PUBLIC);
            }
        }
        Collections.sort(face);
        check.dueTrue("the face is the document's, not " + face, face.equals(Arrays.asList(FACE)));
        check.dueTrue("no private method bears a public name", Collections.disjoint(publicNames, privateNames));
    }

    private static void checkFields(Check check) {
        for (Field field : SnoringDukes.class.getDeclaredFields()) {
            int modifiers = field.getModifiers();
            check.dueTrue(field.getName() + " is private", Modifier.isPrivate(modifiers));
            check.dueTrue(field.getName() + " is final, if static",
                !Modifier.isStatic(modifiers) || Modifier.isFinal(modifiers));
        }
    }

    private static String describe(Method method) {
        String thrown = names(method.getExceptionTypes());
        return method.getReturnType().getSimpleName() + " " + method.getName()
            + "(" + names(method.getParameterTypes()) + ")" + (thrown.isEmpty() ? "" : " throws " + thrown);
    }

    private static String names(Class<?>[] types) {
        List<String> names = new ArrayList<>();
        for (Class<?> type : types) {
            names.add(type.getSimpleName());
        }
        return String.join(", ", names);
    }
}
