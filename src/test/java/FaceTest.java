import java.lang.reflect.Constructor;
import java.lang.reflect.Field;
import java.lang.reflect.Method;
import java.lang.reflect.Modifier;
import java.util.TreeSet;

/** The public face: the document's members and no others that can be seen from outside. */
public final class FaceTest {
    private static final String[] FACE = {
        "size 2", "draw 5", "cell 3", "repair 2", "wall 2", "many 1", "off 2", "lot 4", "mix 4", "mixed 1",
        "pour 0", "left 1", "feed 5", "end 1", "rules 0", "fault 0", "broken 1", "vessel 1", "like 2",
        "tell 3", "of 2", "by 2", "count 1", "status 0"};

    public static void main(String[] args) {
        Due due = new Due();
        TreeSet<String> want = new TreeSet<>(java.util.List.of(FACE));
        TreeSet<String> got = new TreeSet<>();
        TreeSet<String> hidden = new TreeSet<>();
        for (Method m : PieceMoulds.class.getDeclaredMethods()) {
            if (Modifier.isPrivate(m.getModifiers()) || m.isSynthetic()) {
                hidden.add(m.getName());
                continue;
            }
            got.add(m.getName() + " " + m.getParameterCount());
            due.is(m.getName() + " is public", m.getModifiers(), Modifier.PUBLIC);
            due.is(m.getName() + " answers int", m.getReturnType() == int.class ? 1 : 0, 1);
            for (Class<?> p : m.getParameterTypes()) {
                due.is(m.getName() + " takes int", p == int.class ? 1 : 0, 1);
            }
        }
        if (!got.equals(want)) {
            due.fails("methods are " + got + ", due are " + want);
        }
        for (Class<?> inside : PieceMoulds.class.getDeclaredClasses()) {
            for (Method m : inside.getDeclaredMethods()) {
                hidden.add(m.getName());
            }
            due.is("fields of " + inside.getSimpleName(), hasFewFields(inside) ? 1 : 0, 1);
        }
        due.is("fields", hasFewFields(PieceMoulds.class) ? 1 : 0, 1);
        for (String call : FACE) {
            if (hidden.contains(call.substring(0, call.indexOf(' ')))) {
                due.fails("a private method bears the name of " + call);
            }
        }
        for (Field f : PieceMoulds.class.getDeclaredFields()) {
            boolean none = f.getName().equals("NONE");
            due.is(f.getName() + " is private", Modifier.isPrivate(f.getModifiers()) ? 1 : 0, none ? 0 : 1);
        }
        Constructor<?>[] made = PieceMoulds.class.getDeclaredConstructors();
        due.is("constructors", made.length, 1);
        due.is("constructor is public", made[0].getModifiers(), Modifier.PUBLIC);
        due.is("class", PieceMoulds.class.getModifiers(), Modifier.PUBLIC | Modifier.FINAL);
        due.is("NONE", PieceMoulds.NONE, -1);
        due.end();
    }

    private static boolean hasFewFields(Class<?> one) {
        int many = 0;
        for (Field f : one.getDeclaredFields()) {
            many += Modifier.isStatic(f.getModifiers()) ? 0 : 1;
        }
        return many <= 20;
    }
}
