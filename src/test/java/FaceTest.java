import java.lang.reflect.Constructor;
import java.lang.reflect.Field;
import java.lang.reflect.Member;
import java.lang.reflect.Method;
import java.lang.reflect.Modifier;
import java.util.ArrayList;
import java.util.Arrays;
import java.util.Collections;
import java.util.List;

/** The public face is the document's, whole, and nothing else can be seen of the class. */
final class FaceTest {
    private static final String[] FACE = {
        "int NONE",
        "CostSteps()",
        "int part()",
        "boolean price(int, int, long, long) IndexOutOfBoundsException IllegalArgumentException",
        "boolean uses(int, long) IndexOutOfBoundsException IllegalArgumentException",
        "boolean board(int, long, long) IndexOutOfBoundsException IllegalArgumentException",
        "boolean assembly(int, long) IndexOutOfBoundsException IllegalArgumentException",
        "boolean placed(int, long) IndexOutOfBoundsException IllegalArgumentException",
        "boolean yieldOf(long, long) IllegalArgumentException",
        "boolean currency(int, long, long, long) IndexOutOfBoundsException IllegalArgumentException",
        "boolean tooling(long) IllegalArgumentException",
        "boolean stock(int, long) IndexOutOfBoundsException IllegalArgumentException",
        "long total(long, int, long) IndexOutOfBoundsException IllegalArgumentException",
        "int best(long, long) IllegalArgumentException",
        "long each(long, int, long, int) IndexOutOfBoundsException IllegalArgumentException",
        "int suppliers(long, int) IndexOutOfBoundsException IllegalArgumentException",
        "boolean alternate(int, int) IndexOutOfBoundsException",
        "int changed(int)",
        "int row(int, int) IndexOutOfBoundsException",
    };

    public static void main(String[] args) {
        Check check = new Check();
        List<String> seen = new ArrayList<>();
        for (Field field : CostSteps.class.getDeclaredFields()) {
            if (isSeen(field)) {
                seen.add(field.getType().getSimpleName() + " " + field.getName());
            }
        }
        for (Constructor<?> made : CostSteps.class.getDeclaredConstructors()) {
            if (isSeen(made)) {
                seen.add("CostSteps" + words(made.getParameterTypes(), made.getExceptionTypes()));
            }
        }
        for (Method method : CostSteps.class.getDeclaredMethods()) {
            if (isSeen(method)) {
                seen.add(method.getReturnType().getSimpleName() + " " + method.getName()
                        + words(method.getParameterTypes(), method.getExceptionTypes()));
            }
        }
        List<String> face = new ArrayList<>(Arrays.asList(FACE));
        Collections.sort(face);
        Collections.sort(seen);
        check.yes("the face is " + face + ", seen is " + seen + ": that they are the same", face.equals(seen));
        check.yes("that the class is final", Modifier.isFinal(CostSteps.class.getModifiers()));
        check.due("NONE", -1, CostSteps.NONE);
        check.end();
    }

    private static boolean isSeen(Member member) {
        return !Modifier.isPrivate(member.getModifiers());
    }

    private static String words(Class<?>[] parameters, Class<?>[] exceptions) {
        List<String> names = new ArrayList<>();
        for (Class<?> parameter : parameters) {
            names.add(parameter.getSimpleName());
        }
        StringBuilder text = new StringBuilder("(" + String.join(", ", names) + ")");
        for (Class<?> exception : exceptions) {
            text.append(' ').append(exception.getSimpleName());
        }
        return text.toString();
    }
}
