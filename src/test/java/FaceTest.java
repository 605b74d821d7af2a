import java.lang.reflect.Constructor;
import java.lang.reflect.Field;
import java.lang.reflect.Method;
import java.lang.reflect.Modifier;
import java.util.Set;
import java.util.TreeSet;

/** The class has the document's face and nothing else that others can see. */
public final class FaceTest {
    private static final String[] FACE = {
        "int box(int,int,int) IllegalArgumentException IllegalStateException",
        "boolean before(int,int)",
        "int plan(int) IllegalArgumentException",
        "int move(int,int,int) IndexOutOfBoundsException",
        "int work(int) IllegalArgumentException IllegalStateException",
        "int least(int) IllegalArgumentException",
        "int loads(int,int) IllegalArgumentException IllegalStateException",
        "int dual(int) IllegalArgumentException",
        "int swap(int,int) IllegalArgumentException",
        "int look(int,int) IndexOutOfBoundsException",
        "int count(int)",
    };

    private static String list(Class<?>[] types, String between) {
        StringBuilder text = new StringBuilder();
        for (int i = 0; i < types.length; i++) {
            text.append(i == 0 ? "" : between).append(types[i].getSimpleName());
        }
        return text.toString();
    }

    private static String told(Method m) {
        String thrown = list(m.getExceptionTypes(), " ");
        return m.getReturnType().getSimpleName() + " " + m.getName() + "(" + list(m.getParameterTypes(), ",") + ")"
            + (thrown.isEmpty() ? "" : " " + thrown);
    }

    public static void main(String[] args) {
        Check check = new Check();
        check.isTrue("final", Modifier.isFinal(MoveOrder.class.getModifiers()));
        check.due("NONE", -1, MoveOrder.NONE);
        Set<String> open = new TreeSet<>();
        Set<String> openNames = new TreeSet<>();
        for (Method m : MoveOrder.class.getDeclaredMethods()) {
            if (!Modifier.isPrivate(m.getModifiers())) {
                open.add(told(m));
                openNames.add(m.getName());
            }
        }
        check.same("methods", new TreeSet<>(Set.of(FACE)).toString(), open.toString());
        for (Method m : MoveOrder.class.getDeclaredMethods()) {
            check.isFalse("private " + m.getName(),
                Modifier.isPrivate(m.getModifiers()) && openNames.contains(m.getName()));
        }
        for (Field f : MoveOrder.class.getDeclaredFields()) {
            check.isTrue("field " + f.getName(),
                Modifier.isPrivate(f.getModifiers()) || f.getName().equals("NONE"));
        }
        Constructor<?>[] made = MoveOrder.class.getDeclaredConstructors();
        check.due("constructors", 1, made.length);
        check.same("constructor", "int,int", list(made[0].getParameterTypes(), ","));
        check.end();
    }
}
