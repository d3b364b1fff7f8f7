import java.lang.reflect.Constructor;
import java.lang.reflect.Field;
import java.lang.reflect.Method;
import java.lang.reflect.Modifier;
import java.util.Set;
import java.util.TreeSet;

/** The class has the document's public face and nothing else that can be seen from outside. */
public final class FaceTest {
    private static final Set<String> FACE = Set.of(
        "paint/4", "join/3", "copy/2", "turn/2", "shift/3", "zoom/3", "at/3", "area/1", "areaIn/3",
        "tiles/1", "tilesOf/2", "tileAt/3", "same/2", "within/2", "border/1", "regions/1", "next/2");

    private static final Due DUE = new Due();

    public static void main(String[] args) {
        Class<?> c = QuadPictures.class;
        yes("the class is public and final", Modifier.isPublic(c.getModifiers()) && Modifier.isFinal(c.getModifiers()));
        DUE.due("nested classes", c.getDeclaredClasses().length, 0);
        constructors(c);
        methods(c);
        fields(c);
        DUE.end();
    }

    private static void constructors(Class<?> c) {
        Constructor<?>[] all = c.getDeclaredConstructors();
        DUE.due("constructors", all.length, 1);
        yes("the constructor is public without parameters",
            Modifier.isPublic(all[0].getModifiers()) && all[0].getParameterCount() == 0);
    }

    private static void methods(Class<?> c) {
        Set<String> open = new TreeSet<>();
        Set<String> openNames = new TreeSet<>();
        for (Method m : c.getDeclaredMethods()) {
            if (Modifier.isPrivate(m.getModifiers())) continue;
            open.add(m.getName() + "/" + m.getParameterCount());
            openNames.add(m.getName());
            yes(m + " is public and of an object",
                Modifier.isPublic(m.getModifiers()) && !Modifier.isStatic(m.getModifiers()));
            boolean ints = m.getReturnType() == int.class;
            for (Class<?> type : m.getParameterTypes()) {
                ints = ints && type == int.class;
            }
            yes(m + " takes and answers ints alone", ints);
        }
        yes("the open methods " + open + " are those of the document", open.equals(FACE));
        for (Method m : c.getDeclaredMethods()) {
            if (!Modifier.isPrivate(m.getModifiers())) continue;
            yes(m + " bears a name of its own", !openNames.contains(m.getName()));
            yes(m + " answers no array", !m.getReturnType().isArray());
            yes(m + " takes at most seven parameters", m.getParameterCount() <= 7);
        }
    }

    private static void fields(Class<?> c) {
        for (Field f : c.getDeclaredFields()) {
            yes(f + " is private", Modifier.isPrivate(f.getModifiers()));
            Class<?> part = f.getType().isArray() ? f.getType().getComponentType() : f.getType();
            yes(f + " is of whole numbers or booleans",
                part.isPrimitive() && part != float.class && part != double.class);
            if (Modifier.isStatic(f.getModifiers())) {
                yes(f + " is a constant of int or long", Modifier.isFinal(f.getModifiers())
                    && (f.getType() == int.class || f.getType() == long.class));
            }
        }
    }

    private static void yes(String what, boolean so) {
        DUE.due(what, so ? 1 : 0, 1);
    }
}
