import java.lang.reflect.Constructor;
import java.lang.reflect.Field;
import java.lang.reflect.Method;
import java.lang.reflect.Modifier;
import java.util.Arrays;
import java.util.Set;
import java.util.TreeSet;

/** The public face as the document writes it, and that nothing beside it can be seen from outside. */
public final class FaceTest {
    private static final Check CHECK = new Check();
    private static final String[] METHODS = {
        "commit 5 IllegalArgumentException IllegalStateException",
        "withdraw 1 IndexOutOfBoundsException IllegalStateException",
        "reinstate 1 IndexOutOfBoundsException IllegalStateException",
        "amend 3 IndexOutOfBoundsException IllegalArgumentException",
        "undo 0 NoSuchElementException",
        "redo 0 NoSuchElementException",
        "actions 0",
        "argument 2 IndexOutOfBoundsException",
        "effect 1 IndexOutOfBoundsException",
        "needed 2 IndexOutOfBoundsException",
        "needs 2 IndexOutOfBoundsException",
        "objects 0",
        "object 2 IndexOutOfBoundsException",
        "hit 2",
        "shown 4 IllegalArgumentException",
        "inside 5",
    };

    public static void main(String[] args) {
        classIsPublicAndFinal();
        methodsAreTheFace();
        otherMembersArePrivate();
        noPrivateMethodBearsAPublicName();
        noneIsAConstant();
        CHECK.same("NONE", AmendedDrawing.NONE, -1);
        CHECK.end("FaceTest");
    }

    private static void classIsPublicAndFinal() {
        int modifiers = AmendedDrawing.class.getModifiers();
        CHECK.holds("public", Modifier.isPublic(modifiers));
        CHECK.holds("final", Modifier.isFinal(modifiers));
        CHECK.holds("no package", AmendedDrawing.class.getPackageName().isEmpty());
    }

    private static String describe(Method method) {
        StringBuilder text = new StringBuilder(method.getName()).append(' ').append(method.getParameterCount());
        for (Class<?> thrown : method.getExceptionTypes()) {
            text.append(' ').append(thrown.getSimpleName());
        }
        return text.toString();
    }

    private static void methodsAreTheFace() {
        Set<String> face = new TreeSet<>();
        for (Method method : AmendedDrawing.class.getDeclaredMethods()) {
            if (Modifier.isPrivate(method.getModifiers())) {
                continue;
            }
            face.add(describe(method));
            CHECK.holds(method + " is public and answers an int",
                    Modifier.isPublic(method.getModifiers()) && method.getReturnType() == int.class);
            for (Class<?> parameter : method.getParameterTypes()) {
                CHECK.holds(method + " takes ints", parameter == int.class);
            }
        }
        CHECK.holds("the face is " + face, face.equals(new TreeSet<>(Arrays.asList(METHODS))));
    }

    private static void otherMembersArePrivate() {
        for (Field field : AmendedDrawing.class.getDeclaredFields()) {
            boolean hidden = Modifier.isPrivate(field.getModifiers());
            CHECK.holds(field + " is private or NONE", hidden || field.getName().equals("NONE"));
        }
        Constructor<?>[] constructors = AmendedDrawing.class.getDeclaredConstructors();
        CHECK.same("constructors", constructors.length, 1);
        CHECK.same("its parameters", constructors[0].getParameterCount(), 0);
        for (Class<?> inner : AmendedDrawing.class.getDeclaredClasses()) {
            CHECK.holds(inner + " is static and not public",
                    Modifier.isStatic(inner.getModifiers()) && !Modifier.isPublic(inner.getModifiers()));
        }
    }

    private static void noPrivateMethodBearsAPublicName() {
        Set<String> names = new TreeSet<>();
        for (Method method : AmendedDrawing.class.getMethods()) {
            if (method.getDeclaringClass() == AmendedDrawing.class) {
                names.add(method.getName());
            }
        }
        for (Method method : AmendedDrawing.class.getDeclaredMethods()) {
            boolean hidden = Modifier.isPrivate(method.getModifiers());
            CHECK.holds(method + " has a name of its own", !hidden || !names.contains(method.getName()));
        }
    }

    private static void noneIsAConstant() {
        Field[] seen = AmendedDrawing.class.getFields();
        CHECK.same("public constants", seen.length, 1);
        CHECK.text("its name", seen[0].getName(), "NONE");
        CHECK.holds("an int", seen[0].getType() == int.class);
        CHECK.holds("static and final", Modifier.isStatic(seen[0].getModifiers())
                && Modifier.isFinal(seen[0].getModifiers()));
    }
}
