import java.lang.reflect.Constructor;
import java.lang.reflect.Field;
import java.lang.reflect.Method;
import java.lang.reflect.Modifier;
import java.util.TreeSet;

/** The class has the document's face, and nothing else that can be seen from outside. */
public final class FaceTest {
    private static final String I = " throws IndexOutOfBoundsException";
    private static final String[] FACE = {
        "int NONE = -1",
        "LightDoses()",
        "object(int)" + I + " IllegalStateException",
        "allowed(int int)" + I + " IllegalArgumentException",
        "lamp(int) throws IllegalStateException IllegalArgumentException",
        "shines(int int int)" + I + " IllegalArgumentException",
        "daylight(int int)" + I + " IllegalArgumentException",
        "shown(int int int)" + I + " IllegalStateException IllegalArgumentException",
        "presence(int int boolean)" + I + " IllegalStateException",
        "meter(int int int)" + I + " IllegalStateException IllegalArgumentException",
        "flash(int int int)" + I + " IllegalStateException IllegalArgumentException",
        "sum(int int int)" + I + " IllegalArgumentException",
        "rest()",
        "left(int int)" + I,
        "plan(int int int)" + I + " IllegalArgumentException",
        "breaches()",
        "breach(int int)" + I,
        "page(int) throws IllegalStateException IllegalArgumentException",
        "rotate(int) throws IllegalArgumentException",
        "turned(int)" + I,
        "count(int)" + I,
    };

    public static void main(String[] args) throws IllegalAccessException {
        TreeSet<String> due = new TreeSet<>();
        for (String line : FACE) {
            due.add(line);
        }
        TreeSet<String> seen = new TreeSet<>();
        for (Field field : LightDoses.class.getDeclaredFields()) {
            if (!Modifier.isPrivate(field.getModifiers())) {
                boolean constant = field.getModifiers() == (Modifier.PUBLIC | Modifier.STATIC | Modifier.FINAL);
                String told = field.getType() + " " + field.getName();
                seen.add(constant ? told + " = " + field.get(null) : field.toString());
            }
        }
        for (Constructor<?> constructor : LightDoses.class.getDeclaredConstructors()) {
            seen.add("LightDoses(" + names(constructor.getParameterTypes()) + ")");
        }
        for (Method method : LightDoses.class.getDeclaredMethods()) {
            if (!Modifier.isPrivate(method.getModifiers())) {
                seen.add(told(method));
            }
        }
        Due.is("the face", seen.toString(), due.toString());
        Due.is("the class's modifiers", Modifier.toString(LightDoses.class.getModifiers()), "public final");
        Due.end();
    }

    private static String told(Method method) {
        if (method.getModifiers() != Modifier.PUBLIC || method.getReturnType() != int.class) {
            return method.toString();
        }
        String thrown = names(method.getExceptionTypes());
        return method.getName() + "(" + names(method.getParameterTypes()) + ")"
            + (thrown.isEmpty() ? "" : " throws " + thrown);
    }

    private static String names(Class<?>[] types) {
        StringBuilder names = new StringBuilder();
        for (Class<?> type : types) {
            names.append(names.length() == 0 ? "" : " ").append(type.getSimpleName());
        }
        return names.toString();
    }
}
