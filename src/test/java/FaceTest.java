import java.lang.reflect.Constructor;
import java.lang.reflect.Executable;
import java.lang.reflect.Field;
import java.lang.reflect.Member;
import java.lang.reflect.Method;
import java.lang.reflect.Modifier;
import java.util.ArrayList;
import java.util.Collections;
import java.util.List;

/** The public face is the document's, whole, and nothing else can be seen of the class. */
final class FaceTest {
    /** 17 methods, the constructor and the constant: so that a face that can't be read is no empty one. */
    private static final int MEMBERS = 19;
    private static final Check CHECK = new Check();

    public static void main(String[] args) throws IllegalAccessException {
        Face face = new Face(new Document(CHECK));
        CHECK.of(Face.SECTION);
        CHECK.yes("that the document writes the class", face.hasClassLine);
        CHECK.same("the class is", "public final", Modifier.toString(CostSteps.class.getModifiers()));
        CHECK.due("members that the document writes", MEMBERS, face.members.size());
        List<String> due = face.withoutNames();
        List<String> seen = seenMembers();
        for (String member : due) {
            CHECK.yes("that there is " + member + " in " + seen, seen.contains(member));
        }
        for (String member : seen) {
            CHECK.yes("that the document has " + member, due.contains(member));
        }
        for (Class<?> inside : CostSteps.class.getDeclaredClasses()) {
            CHECK.yes("that " + inside + " is not public", !Modifier.isPublic(inside.getModifiers()));
        }
        CHECK.due("NONE", -1, CostSteps.NONE);
        CHECK.end();
    }

    private static List<String> seenMembers() throws IllegalAccessException {
        List<String> seen = new ArrayList<>();
        for (Field field : CostSteps.class.getDeclaredFields()) {
            if (isSeen(field)) {
                String value = Modifier.isStatic(field.getModifiers()) ? " = " + field.get(null) : "";
                seen.add(words(field) + field.getType().getSimpleName() + " " + field.getName() + value);
            }
        }
        for (Constructor<?> made : CostSteps.class.getDeclaredConstructors()) {
            if (isSeen(made)) {
                seen.add(words(made) + "CostSteps" + parameters(made) + exceptions(made));
            }
        }
        for (Method method : CostSteps.class.getDeclaredMethods()) {
            if (isSeen(method)) {
                seen.add(words(method) + method.getReturnType().getSimpleName() + " " + method.getName()
                        + parameters(method) + exceptions(method));
            }
        }
        Collections.sort(seen);
        return seen;
    }

    private static boolean isSeen(Member member) {
        return !Modifier.isPrivate(member.getModifiers());
    }

    private static String words(Member member) {
        return Modifier.toString(member.getModifiers()) + " ";
    }

    private static String parameters(Executable call) {
        return "(" + names(call.getParameterTypes()) + ")";
    }

    private static String exceptions(Executable call) {
        String thrown = names(call.getExceptionTypes());
        return thrown.isEmpty() ? "" : " throws " + thrown;
    }

    private static String names(Class<?>[] types) {
        List<String> names = new ArrayList<>();
        for (Class<?> type : types) {
            names.add(type.getSimpleName());
        }
        return String.join(", ", names);
    }
}
