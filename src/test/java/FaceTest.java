import java.lang.reflect.Constructor;
import java.lang.reflect.Field;
import java.lang.reflect.Method;
import java.lang.reflect.Modifier;
import java.util.Set;
import java.util.TreeSet;

/** The class has the members that the document lists, and no other that can be seen from outside. */
public final class FaceTest {
    private static final String THROWS =
        " throws java.lang.IllegalArgumentException,java.lang.IllegalStateException";

    public static void main(String[] args) {
        Checks checks = new Checks();
        Set<String> want = new TreeSet<>(Set.of(
            "public static final int GlobRows.NONE",
            "public GlobRows()",
            "public boolean GlobRows.type(char)",
            "public int GlobRows.file()" + THROWS,
            "public int GlobRows.folder()" + THROWS,
            "public int GlobRows.remove()" + THROWS,
            "public void GlobRows.pack(boolean)" + THROWS,
            "public int GlobRows.query()" + THROWS));
        want.addAll(Set.of(
            "public void GlobRows.pattern(int,boolean)" + THROWS,
            "public int GlobRows.place()",
            "public int GlobRows.ask(int)",
            "public int GlobRows.looked()",
            "public int GlobRows.answer(int,int)"));
        checks.due("the face", seen(), want);
        checks.due("the class", Modifier.toString(GlobRows.class.getModifiers()), "public final");
        for (Class<?> inside : GlobRows.class.getDeclaredClasses()) {
            int modifiers = inside.getModifiers();
            checks.due(inside.getName() + " is static", Modifier.isStatic(modifiers), true);
            checks.due(inside.getName() + " is hidden", Modifier.isPublic(modifiers) || Modifier.isProtected(modifiers), false);
        }
        Set<String> shared = hiddenNames();
        shared.retainAll(Set.of(
            "type", "file", "folder", "remove", "pack", "query", "pattern", "place", "ask", "looked", "answer"));
        checks.due("private methods with the name of a public one", shared, Set.of());
        checks.end("FaceTest");
    }

    private static Set<String> seen() {
        Set<String> seen = new TreeSet<>();
        for (Field field : GlobRows.class.getDeclaredFields()) {
            if (!Modifier.isPrivate(field.getModifiers())) {
                seen.add(field.toString());
            }
        }
        for (Constructor<?> constructor : GlobRows.class.getDeclaredConstructors()) {
            if (!Modifier.isPrivate(constructor.getModifiers())) {
                seen.add(constructor.toString());
            }
        }
        for (Method method : GlobRows.class.getDeclaredMethods()) {
            if (!Modifier.isPrivate(method.getModifiers())) {
                seen.add(method.toString());
            }
        }
        return seen;
    }

    private static Set<String> hiddenNames() {
        Set<String> names = new TreeSet<>();
        for (Method method : GlobRows.class.getDeclaredMethods()) {
            if (Modifier.isPrivate(method.getModifiers())) {
                names.add(method.getName());
            }
        }
        for (Class<?> inside : GlobRows.class.getDeclaredClasses()) {
            for (Method method : inside.getDeclaredMethods()) {
                names.add(method.getName());
            }
        }
        return names;
    }
}
