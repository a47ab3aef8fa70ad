import java.lang.reflect.Constructor;
import java.lang.reflect.Field;
import java.lang.reflect.Method;
import java.lang.reflect.Modifier;
import java.util.TreeSet;

/** The public face of the document, and that there is no other (rule 1 of LANGUAGE.md). */
public final class FaceTest {
    private static final String ARGUMENT = "IllegalArgumentException";
    private static final String INDEX = "IndexOutOfBoundsException";
    private static final String STATE = "IllegalStateException";
    private static final String UNSUPPORTED = "UnsupportedOperationException";

    private static final String[] METHODS = {
        "int type(char) " + ARGUMENT + " " + STATE,
        "void cut(int) " + ARGUMENT,
        "int put(int int int) " + ARGUMENT + " " + INDEX + " " + STATE,
        "void move(int int int int) " + ARGUMENT + " " + INDEX + " " + STATE,
        "void remove(int int int) " + ARGUMENT + " " + INDEX + " " + STATE,
        "int enter(int int int) " + ARGUMENT + " " + INDEX + " " + STATE,
        "boolean undo(int) " + ARGUMENT + " " + UNSUPPORTED + " " + STATE,
        "int deliver(int int int) " + ARGUMENT,
        "int known(int int) " + ARGUMENT,
        "int waiting(int) " + ARGUMENT,
        "int lines(int int) " + ARGUMENT,
        "int line(int int int) " + ARGUMENT + " " + INDEX,
        "int value(int int int) " + ARGUMENT + " " + INDEX,
        "int error(int int int) " + ARGUMENT + " " + INDEX,
        "int also(int int int) " + ARGUMENT + " " + INDEX,
        "int print(int int int) " + ARGUMENT + " " + INDEX,
        "int out(int) " + INDEX,
    };

    public static void main(String[] args) throws ReflectiveOperationException {
        Class<?> face = OfficeSheet.class;
        Check.due("the class", Modifier.toString(face.getModifiers()), "public final");
        Check.due("it has no package", face.getPackageName(), "");
        Check.due("it stands alone", face.getSuperclass().getSimpleName() + face.getInterfaces().length, "Object0");
        methods(face);
        Check.due("constructors", face.getDeclaredConstructors().length, 1);
        Constructor<?> constructor = face.getDeclaredConstructor();
        Check.due("constructor", Modifier.toString(constructor.getModifiers()), "public");
        Check.due("NONE", Modifier.toString(face.getField("NONE").getModifiers()), "public static final");
        for (Field field : face.getDeclaredFields()) {
            if (!field.getName().equals("NONE")) {
                Check.due(field.getName() + " is private", Modifier.isPrivate(field.getModifiers()) ? 1 : 0, 1);
            }
        }
        for (Class<?> inside : face.getDeclaredClasses()) {
            int modifiers = inside.getModifiers();
            boolean hidden = !Modifier.isPublic(modifiers) && !Modifier.isProtected(modifiers);
            Check.due(inside.getSimpleName() + " is hidden", hidden ? 1 : 0, 1);
            Check.due(inside.getSimpleName() + " is static", Modifier.isStatic(modifiers) ? 1 : 0, 1);
        }
        Check.end();
    }

    private static void methods(Class<?> face) {
        TreeSet<String> want = new TreeSet<>();
        TreeSet<String> names = new TreeSet<>();
        for (String method : METHODS) {
            want.add(method);
            names.add(method.substring(method.indexOf(' ') + 1, method.indexOf('(')));
        }
        TreeSet<String> got = new TreeSet<>();
        for (Method method : face.getDeclaredMethods()) {
            if (!Modifier.isPrivate(method.getModifiers())) {
                got.add(told(method));
            } else {
                Check.due("a private " + method.getName(), names.contains(method.getName()) ? 1 : 0, 0);
            }
        }
        Check.due("methods", got.toString(), want.toString());
    }

    private static String told(Method method) {
        StringBuilder text = new StringBuilder();
        text.append(method.getReturnType().getSimpleName()).append(' ').append(method.getName()).append('(');
        for (Class<?> type : method.getParameterTypes()) {
            text.append(text.charAt(text.length() - 1) == '(' ? "" : " ").append(type.getSimpleName());
        }
        text.append(')');
        for (Class<?> type : method.getExceptionTypes()) {
            text.append(' ').append(type.getSimpleName());
        }
        return text.toString();
    }
}
