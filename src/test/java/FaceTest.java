import java.lang.reflect.Constructor;
import java.lang.reflect.Field;
import java.lang.reflect.Method;
import java.lang.reflect.Modifier;
import java.util.Arrays;
import java.util.TreeSet;

/** The public face is the document's, and there is no more of it. */
public final class FaceTest {
    private static final String[] FACE = {
        "int type(char) IllegalStateException",
        "int table()",
        "int states(int,int) IndexOutOfBoundsException",
        "int weigh(int,int) IndexOutOfBoundsException IllegalArgumentException",
        "int trees()",
        "int changes(int,int) IndexOutOfBoundsException",
        "int length(int) IndexOutOfBoundsException",
        "int search() IllegalStateException",
        "int found()",
        "int best(int) IndexOutOfBoundsException",
        "boolean split(int,int) IndexOutOfBoundsException",
        "float share(int) IllegalStateException",
        "int distance(int,int) IndexOutOfBoundsException",
        "float consistency(int) IndexOutOfBoundsException",
        "float retention(int) IndexOutOfBoundsException",
        "int write(int) IndexOutOfBoundsException",
        "int common(float) IllegalStateException IllegalArgumentException",
        "char written(int)",
    };

    public static void main(String[] args) {
        Class<?> face = ShortTrees.class;
        Check.due("modifiers", Modifier.toString(face.getModifiers()), "public final");
        Constructor<?>[] constructors = face.getDeclaredConstructors();
        Check.due("constructors", constructors.length, 1);
        Check.due("constructor", constructors[0].toString(), "public ShortTrees()");
        TreeSet<String> open = new TreeSet<>();
        for (Method method : face.getDeclaredMethods()) {
            if (!Modifier.isPrivate(method.getModifiers())) {
                Check.due(method + " is public", Modifier.toString(method.getModifiers()), "public");
                open.add(signature(method));
            }
        }
        Check.due("methods", open, new TreeSet<>(Arrays.asList(FACE)));
        for (Field field : face.getDeclaredFields()) {
            Check.due(field + " is private", Modifier.isPrivate(field.getModifiers()), true);
        }
        for (Class<?> inside : face.getDeclaredClasses()) {
            Check.due(inside + " is static", Modifier.isStatic(inside.getModifiers()), true);
            Check.due(inside + " is public", Modifier.isPublic(inside.getModifiers()), false);
        }
        Check.end();
    }

    private static String signature(Method method) {
        StringBuilder text = new StringBuilder();
        text.append(method.getReturnType().getName()).append(' ').append(method.getName()).append('(');
        String comma = "";
        for (Class<?> parameter : method.getParameterTypes()) {
            text.append(comma).append(parameter.getName());
            comma = ",";
        }
        text.append(')');
        for (Class<?> thrown : method.getExceptionTypes()) {
            text.append(' ').append(thrown.getSimpleName());
        }
        return text.toString();
    }
}
