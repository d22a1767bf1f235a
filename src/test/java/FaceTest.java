import java.lang.reflect.Constructor;
import java.lang.reflect.Executable;
import java.lang.reflect.Field;
import java.lang.reflect.Method;
import java.lang.reflect.Modifier;
import java.util.Arrays;
import java.util.Set;
import java.util.TreeSet;
import java.util.stream.Collectors;

/** The class has the document's face and no other member that can be seen from outside. */
public final class FaceTest {
    private static final String ARGUMENT = "java.lang.IllegalArgumentException";
    private static final String STATE = "java.lang.IllegalStateException";
    private static final String NONE = "java.util.NoSuchElementException";
    private static final Set<String> FACE = new TreeSet<>(Arrays.asList(
            "public static final int FULL",
            "public static final int CUT",
            "public FirmStore()",
            "public int put(int,int,int) throws " + ARGUMENT + "," + STATE,
            "public int remove(int,int) throws " + ARGUMENT + "," + STATE + "," + NONE,
            "public int get(int,int) throws " + ARGUMENT + "," + NONE,
            "public int from(int) throws " + ARGUMENT + "," + NONE,
            "public boolean order(int,int)",
            "public int recover() throws " + STATE,
            "public int size(int)",
            "public int free()",
            "public int height()",
            "public long word(int)",
            "public int stores()",
            "public boolean down()"));

    public static void main(String[] args) {
        Class<?> face = FirmStore.class;
        Check.isTrue("public and final", face.getModifiers() == (Modifier.PUBLIC | Modifier.FINAL));
        Check.isTrue("no class above it", face.getSuperclass() == Object.class);
        Check.same("interfaces", face.getInterfaces().length, 0);
        Set<String> seen = visibleMembers(face);
        Set<String> missing = new TreeSet<>(FACE);
        missing.removeAll(seen);
        Set<String> more = new TreeSet<>(seen);
        more.removeAll(FACE);
        Check.isTrue("missing are " + missing, missing.isEmpty());
        Check.isTrue("more than due are " + more, more.isEmpty());
        Check.same("FULL", FirmStore.FULL, -1);
        Check.same("CUT", FirmStore.CUT, -2);
        classesInside(face);
        noNameTwice(face);
        Check.end();
    }

    private static Set<String> visibleMembers(Class<?> face) {
        Set<String> seen = new TreeSet<>();
        for (Field f : face.getDeclaredFields()) {
            if (!Modifier.isPrivate(f.getModifiers())) {
                seen.add(Modifier.toString(f.getModifiers()) + " " + f.getType() + " " + f.getName());
            }
        }
        for (Constructor<?> c : face.getDeclaredConstructors()) {
            if (!Modifier.isPrivate(c.getModifiers())) {
                seen.add(describe(c, "", c.getName()));
            }
        }
        for (Method m : face.getDeclaredMethods()) {
            if (!Modifier.isPrivate(m.getModifiers())) {
                seen.add(describe(m, m.getReturnType() + " ", m.getName()));
            }
        }
        return seen;
    }

    private static String describe(Executable e, String type, String name) {
        String thrown = names(e.getExceptionTypes());
        return Modifier.toString(e.getModifiers()) + " " + type + name
                + "(" + names(e.getParameterTypes()) + ")" + (thrown.isEmpty() ? "" : " throws " + thrown);
    }

    private static String names(Class<?>[] types) {
        return Arrays.stream(types).map(Class::getName).collect(Collectors.joining(","));
    }

    private static void classesInside(Class<?> face) {
        for (Class<?> c : face.getDeclaredClasses()) {
            int m = c.getModifiers();
            Check.isTrue(c + " is static", Modifier.isStatic(m));
            Check.isFalse(c + " is seen from outside", Modifier.isPublic(m) || Modifier.isProtected(m));
            staticFieldsAreFinal(c);
        }
        staticFieldsAreFinal(face);
    }

    private static void staticFieldsAreFinal(Class<?> c) {
        for (Field f : c.getDeclaredFields()) {
            boolean isStatic = Modifier.isStatic(f.getModifiers());
            Check.isTrue(c + "." + f.getName(), !isStatic || Modifier.isFinal(f.getModifiers()));
        }
    }

    private static void noNameTwice(Class<?> face) {
        Set<String> names = new TreeSet<>();
        for (Method m : face.getMethods()) {
            names.add(m.getName());
        }
        for (Method m : face.getDeclaredMethods()) {
            boolean isPrivate = Modifier.isPrivate(m.getModifiers());
            Check.isFalse(m + " bears a public name", isPrivate && names.contains(m.getName()));
        }
    }
}
