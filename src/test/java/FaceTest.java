import java.lang.reflect.Constructor;
import java.lang.reflect.Field;
import java.lang.reflect.Method;
import java.lang.reflect.Modifier;
import java.util.Set;
import java.util.TreeSet;

/** The public face: what is visible is what the document shows, and nothing else. */
public final class FaceTest {
    private static final String[] FACE = {
        "boolean type(char)",
        "void wipe()",
        "int define() IllegalArgumentException UnsupportedOperationException",
        "int check() IllegalArgumentException UnsupportedOperationException",
        "int fault()",
        "int view(boolean,int,int) NoSuchElementException IndexOutOfBoundsException",
        "void forget()",
        "int number(int) IllegalStateException",
        "int pair(int,int) IllegalArgumentException IllegalStateException",
        "void input(int,int) IndexOutOfBoundsException IllegalArgumentException",
        "void clear()",
        "int run(int) NoSuchElementException IllegalArgumentException",
        "int steps()",
        "int result()",
        "int count()",
        "int cell(int,int) IndexOutOfBoundsException IllegalArgumentException",
    };

    public static void main(String[] args) {
        Due due = new Due();
        Set<String> want = new TreeSet<>(Set.of(FACE));
        Set<String> got = new TreeSet<>();
        for (Method method : TypedLisp.class.getDeclaredMethods()) {
            if (!Modifier.isPrivate(method.getModifiers())) {
                got.add(signature(method));
                due.same(method + " is public and not static",
                    Modifier.isPublic(method.getModifiers()) && !Modifier.isStatic(method.getModifiers()), true);
            }
        }
        due.same("methods", got, want);
        for (Field field : TypedLisp.class.getDeclaredFields()) {
            due.same(field + " is private", Modifier.isPrivate(field.getModifiers()), true);
        }
        Constructor<?>[] constructors = TypedLisp.class.getDeclaredConstructors();
        due.same("constructors", constructors.length, 1);
        due.same("constructor", constructors[0].toString(), "public TypedLisp()");
        due.same("class", Modifier.toString(TypedLisp.class.getModifiers()), "public final");
        due.end();
    }

    private static String signature(Method method) {
        StringBuilder all = new StringBuilder();
        all.append(method.getReturnType()).append(' ').append(method.getName()).append('(');
        for (int i = 0; i < method.getParameterCount(); i++) {
            all.append(i == 0 ? "" : ",").append(method.getParameterTypes()[i]);
        }
        all.append(')');
        for (Class<?> thrown : method.getExceptionTypes()) {
            all.append(' ').append(thrown.getSimpleName());
        }
        return all.toString();
    }
}
