import java.lang.reflect.Constructor;
import java.lang.reflect.Field;
import java.lang.reflect.Method;
import java.lang.reflect.Modifier;
import java.util.Set;
import java.util.TreeSet;

/** The public face of the document: every constant, the constructor and every method, no other. */
public final class FaceTest {
    private static final Set<String> METHODS = Set.of(
        "int feed(int)", "int undo()", "int token(int)", "boolean complete()", "int free()",
        "int run(int)", "int status()", "int kind()", "int number()", "int outs()",
        "int out(int)", "int calls()", "int shifts()", "int deepest()");
    private static final Set<String> CONSTANTS = Set.of(
        "BAD=-1", "FULL_LIST=-2", "NONE=0", "DONE=1", "WRONG=2", "LONG=3", "DEEP=4", "FULL=5");

    public static void main(String[] args) throws IllegalAccessException {
        Check check = new Check();
        Class<?> face = SegmentMachine.class;
        check.due("public and final", face.getModifiers(), Modifier.PUBLIC | Modifier.FINAL);
        check.due("nested classes", face.getDeclaredClasses().length, 0);
        constructor(check, face);
        methods(check, face);
        constants(check, face);
        check.end();
    }

    private static void constructor(Check check, Class<?> face) {
        Constructor<?>[] all = face.getDeclaredConstructors();
        check.due("constructors", all.length, 1);
        check.due("a public constructor", all[0].getModifiers(), Modifier.PUBLIC);
        check.due("its parameters", all[0].getParameterCount(), 0);
    }

    private static void methods(Check check, Class<?> face) {
        Set<String> visible = new TreeSet<>();
        Set<String> publicNames = new TreeSet<>();
        Set<String> privateNames = new TreeSet<>();
        for (Method method : face.getDeclaredMethods()) {
            if (Modifier.isPrivate(method.getModifiers())) {
                privateNames.add(method.getName());
            } else {
                visible.add(describe(method));
                publicNames.add(method.getName());
            }
        }
        check.due("methods " + visible, visible.equals(METHODS), true);
        privateNames.retainAll(publicNames);
        check.due("private namesakes " + privateNames, privateNames.size(), 0);
    }

    private static String describe(Method method) {
        StringBuilder text = new StringBuilder();
        if (method.getModifiers() != Modifier.PUBLIC) {
            text.append(Modifier.toString(method.getModifiers())).append(' ');
        }
        text.append(method.getReturnType()).append(' ').append(method.getName()).append('(');
        for (Class<?> parameter : method.getParameterTypes()) {
            text.append(parameter);
        }
        return text.append(')').toString();
    }

    private static void constants(Check check, Class<?> face) throws IllegalAccessException {
        int wanted = Modifier.PUBLIC | Modifier.STATIC | Modifier.FINAL;
        Set<String> visible = new TreeSet<>();
        for (Field field : face.getDeclaredFields()) {
            if (!Modifier.isPrivate(field.getModifiers())) {
                visible.add(field.getName() + "=" + field.getInt(null));
                check.due(field.getName() + "'s modifiers", field.getModifiers(), wanted);
                check.due(field.getName() + " is an int", field.getType() == int.class, true);
            }
        }
        check.due("constants " + visible, visible.equals(CONSTANTS), true);
    }
}
