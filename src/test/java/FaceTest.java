import java.lang.reflect.Constructor;
import java.lang.reflect.Field;
import java.lang.reflect.Method;
import java.lang.reflect.Modifier;
import java.util.Set;
import java.util.TreeSet;

/** The public face: just the document's members, each with its exceptions. */
public final class FaceTest {
    private static final String ARGUMENT = "IllegalArgumentException";
    private static final String STATE = "IllegalStateException";
    private static final String INDEX = "IndexOutOfBoundsException";

    public static void main(String[] args) {
        Check.due("NONE", -1, BlockRuler.NONE);
        Check.due("public final", true,
                BlockRuler.class.getModifiers() == (Modifier.PUBLIC | Modifier.FINAL));
        Check.due("methods", wanted().toString(), methods().toString());
        Check.due("constructors", "[public BlockRuler()]", constructors().toString());
        Check.due("fields", "[public static final int BlockRuler.NONE]", fields().toString());
        noNameTwice();
        Check.finish();
    }

    /** Rule 1 of LANGUAGE.md: no method inside bears the name of one of the face. */
    private static void noNameTwice() {
        Set<String> names = new TreeSet<>();
        for (Method method : BlockRuler.class.getMethods()) {
            names.add(method.getName());
        }
        for (Method method : BlockRuler.class.getDeclaredMethods()) {
            boolean hidden = Modifier.isPrivate(method.getModifiers());
            Check.due(method.toString(), false, hidden && names.contains(method.getName()));
        }
        for (Class<?> inside : BlockRuler.class.getDeclaredClasses()) {
            Check.due(inside + " is static", true, Modifier.isStatic(inside.getModifiers()));
            for (Method method : inside.getDeclaredMethods()) {
                Check.due(method.toString(), false, names.contains(method.getName()));
            }
        }
    }

    private static Set<String> wanted() {
        return new TreeSet<>(Set.of(
                "int block() " + STATE,
                "int way(int,int) " + ARGUMENT + " " + STATE,
                "int cut(int,int) " + INDEX,
                "int turn(int,int,int) " + INDEX + " " + ARGUMENT,
                "int end(int,int)",
                "int order(int)",
                "int at(int)",
                "int parent(int)",
                "boolean rules(int,int)",
                "int common(int,int) " + ARGUMENT,
                "int sort(int,int)",
                "boolean inLoop(int,int)",
                "int look(int,int)",
                "int edge(int,int)",
                "int count(int)").stream().map(s -> "public " + s).toList());
    }

    private static Set<String> methods() {
        Set<String> found = new TreeSet<>();
        for (Method method : BlockRuler.class.getDeclaredMethods()) {
            if (!Modifier.isPrivate(method.getModifiers())) {
                found.add(told(method));
            }
        }
        return found;
    }

    private static String told(Method method) {
        StringBuilder text = new StringBuilder(Modifier.toString(method.getModifiers()));
        text.append(' ').append(method.getReturnType()).append(' ').append(method.getName());
        text.append('(');
        for (Class<?> type : method.getParameterTypes()) {
            text.append(text.charAt(text.length() - 1) == '(' ? "" : ",").append(type);
        }
        text.append(')');
        for (Class<?> type : method.getExceptionTypes()) {
            text.append(' ').append(type.getSimpleName());
        }
        return text.toString();
    }

    private static Set<String> constructors() {
        Set<String> found = new TreeSet<>();
        for (Constructor<?> constructor : BlockRuler.class.getDeclaredConstructors()) {
            found.add(constructor.toString());
        }
        return found;
    }

    private static Set<String> fields() {
        Set<String> found = new TreeSet<>();
        for (Field field : BlockRuler.class.getDeclaredFields()) {
            if (!Modifier.isPrivate(field.getModifiers())) {
                found.add(field.toString());
            }
        }
        return found;
    }
}
