import java.lang.reflect.Constructor;
import java.lang.reflect.Field;
import java.lang.reflect.Method;
import java.lang.reflect.Modifier;
import java.util.Set;
import java.util.TreeSet;

/** The class's face: every constant, constructor and method of the document, and no other member that can be seen. */
public final class FaceTest {
    private static final String[] METHODS = {
        "int dig(int)", "int fill(int)", "int roof(int)", "int undo()", "int own(int,int)", "int rate(int)",
        "int told(int,int)", "int type(int)", "int ground()", "int owners()", "int day()", "int count(int)",
        "int hole(int,int)", "long cells(int,int)", "int part(int,int)", "int pays(int)", "int worth(int)",
        "int filled(int,int)", "int split(int,int)", "int dug(int,int,int)", "int loophole()", "int roofs(int)",
        "int round(int,int)", "int border(int)", "int cut(int)", "long books(long,int,int,int)", "int lots(int)",
        "int seed(int)", "int image()", "int restore()", "int lay(int,int,int,int,int)", "int film(int,int,int)",
        "int miscounted(int,int,int,int)", "int sheet(int,int,int)", "int drop(int)", "int item(int,int,int,long)",
        "int copy(int,int,int,int,int)"};
    private static final String[] CONSTANTS = {
        "BAD -1", "NOT -2", "FULL -3", "NONE -4", "NULL -11", "CAST -12", "INDEX -13", "SIZE -14"};

    public static void main(String[] args) throws Exception {
        Check check = new Check();
        Class<?> face = HoleCounty.class;
        check.holds("public", Modifier.isPublic(face.getModifiers()));
        check.holds("final", Modifier.isFinal(face.getModifiers()));
        check.holds("no class above it", face.getSuperclass() == Object.class && face.getInterfaces().length == 0);
        same(check, "methods", seenMethods(face), METHODS);
        same(check, "constants", seenFields(face), CONSTANTS);
        Constructor<?>[] made = face.getDeclaredConstructors();
        check.is("constructors", made.length, 1);
        check.holds("public constructor", Modifier.isPublic(made[0].getModifiers()) && made[0].getParameterCount() == 0);
        for (Class<?> inside : face.getDeclaredClasses()) {
            int how = inside.getModifiers();
            check.holds(inside + " is static", Modifier.isStatic(how));
            check.holds(inside + " is not public", !Modifier.isPublic(how) && !Modifier.isProtected(how));
        }
        check.end("FaceTest");
    }

    private static void same(Check check, String what, Set<String> seen, String[] due) {
        Set<String> missing = new TreeSet<>(Set.of(due));
        missing.removeAll(seen);
        Set<String> more = new TreeSet<>(seen);
        more.removeAll(Set.of(due));
        check.holds(what + " missing " + missing, missing.isEmpty());
        check.holds(what + " not in the document " + more, more.isEmpty());
    }

    private static Set<String> seenMethods(Class<?> face) {
        Set<String> seen = new TreeSet<>();
        for (Method m : face.getDeclaredMethods()) {
            if (Modifier.isPrivate(m.getModifiers()) || m.isSynthetic()) {
                continue;
            }
            StringBuilder text = new StringBuilder();
            if (!Modifier.isPublic(m.getModifiers()) || Modifier.isStatic(m.getModifiers())) {
                text.append("not as told: ");
            }
            text.append(m.getReturnType()).append(' ').append(m.getName()).append('(');
            String comma = "";
            for (Class<?> p : m.getParameterTypes()) {
                text.append(comma).append(p);
                comma = ",";
            }
            seen.add(text.append(')').toString());
        }
        return seen;
    }

    private static Set<String> seenFields(Class<?> face) throws IllegalAccessException {
        Set<String> seen = new TreeSet<>();
        for (Field f : face.getDeclaredFields()) {
            if (Modifier.isPrivate(f.getModifiers()) || f.isSynthetic()) {
                continue;
            }
            boolean told = f.getModifiers() == (Modifier.PUBLIC | Modifier.STATIC | Modifier.FINAL)
                    && f.getType() == int.class;
            seen.add(f.getName() + ' ' + (told ? Integer.toString(f.getInt(null)) : "not as told"));
        }
        return seen;
    }
}
