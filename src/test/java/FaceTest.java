import java.lang.reflect.Executable;
import java.lang.reflect.Field;
import java.lang.reflect.Method;
import java.lang.reflect.Modifier;
import java.util.ArrayList;
import java.util.Collections;
import java.util.List;

/** The public face: the class has what the document tells, and all else in it is private. */
public final class FaceTest {
    private static final Checks CHECKS = new Checks("FaceTest");
    private static final String[] FACE = {
        "int feed(int, int, int, int, int) throws IllegalStateException",
        "void end(int) throws IllegalArgumentException",
        "int read()",
        "int entity(int, int) throws IndexOutOfBoundsException",
        "int part(int, int) throws IndexOutOfBoundsException",
        "int octet(int, int) throws IndexOutOfBoundsException",
        "int kind(int, int) throws IndexOutOfBoundsException",
        "int letter(int, int, int, int) throws IndexOutOfBoundsException",
        "int type(int, int, int) throws IndexOutOfBoundsException",
        "int parameter(int, int, int, int) throws IndexOutOfBoundsException",
        "int subject(int) throws IndexOutOfBoundsException",
        "long date(int) throws IndexOutOfBoundsException",
        "int addresses(int) throws IllegalArgumentException",
        "int address(int, int, int, int) throws IllegalArgumentException, IndexOutOfBoundsException",
        "int write() throws IllegalStateException",
        "int out(int) throws IndexOutOfBoundsException",
        "int again() throws IllegalStateException"};

    public static void main(String[] args) {
        theClass();
        methods();
        fields();
        classesInside();
        CHECKS.finish();
    }

    private static void theClass() {
        CHECKS.asked("public final class MessageTree {");
        CHECKS.same("modifiers", Modifier.toString(MessageTree.class.getModifiers()), "public final");
        CHECKS.same("constructors", MessageTree.class.getDeclaredConstructors().length, 1);
        CHECKS.asked("public MessageTree();");
        CHECKS.same("constructors without numbers that are public", MessageTree.class.getConstructors().length, 1);
        CHECKS.same("its numbers", MessageTree.class.getConstructors()[0].getParameterCount(), 0);
    }

    private static void methods() {
        CHECKS.asked("public int feed(int a, int b, int c, int d, int e) throws IllegalStateException;");
        List<String> due = new ArrayList<>(List.of(FACE));
        List<String> got = new ArrayList<>();
        List<String> names = new ArrayList<>();
        for (Method method : MessageTree.class.getDeclaredMethods()) {
            if (Modifier.isPrivate(method.getModifiers())) {
                names.add(method.getName());
            } else {
                CHECKS.same("modifiers of " + method.getName(), Modifier.toString(method.getModifiers()), "public");
                got.add(method.getReturnType() + " " + method.getName() + told(method));
            }
        }
        Collections.sort(due);
        Collections.sort(got);
        CHECKS.same("methods", String.join("\n", got), String.join("\n", due));
        for (String line : FACE) {
            String name = line.substring(line.indexOf(' ') + 1, line.indexOf('('));
            CHECKS.same("private methods with the name " + name, names.contains(name) ? 1 : 0, 0);
        }
    }

    private static String told(Executable method) {
        StringBuilder text = new StringBuilder("(");
        for (Class<?> type : method.getParameterTypes()) {
            text.append(text.length() > 1 ? ", " : "").append(type);
        }
        text.append(")");
        String before = " throws ";
        for (Class<?> thrown : method.getExceptionTypes()) {
            text.append(before).append(thrown.getSimpleName());
            before = ", ";
        }
        return text.toString();
    }

    private static void fields() {
        CHECKS.asked("public static final int NONE = -1;");
        CHECKS.same("NONE", MessageTree.NONE, -1);
        for (Field field : MessageTree.class.getDeclaredFields()) {
            String modifiers = Modifier.toString(field.getModifiers());
            if (field.getName().equals("NONE")) {
                CHECKS.same("modifiers of NONE", modifiers + " " + field.getType(), "public static final int");
            } else {
                CHECKS.same(field.getName() + " is private", modifiers.startsWith("private") ? 1 : 0, 1);
            }
        }
    }

    private static void classesInside() {
        CHECKS.asked("public final class MessageTree {");
        for (Class<?> inside : MessageTree.class.getDeclaredClasses()) {
            int modifiers = inside.getModifiers();
            boolean hidden = !Modifier.isPublic(modifiers) && !Modifier.isProtected(modifiers);
            CHECKS.same(inside.getSimpleName() + " is static and not to be seen", hidden && Modifier.isStatic(modifiers) ? 1 : 0, 1);
        }
    }
}
