import java.lang.reflect.Constructor;
import java.lang.reflect.Field;
import java.lang.reflect.Method;
import java.lang.reflect.Modifier;
import java.util.Arrays;
import java.util.Set;
import java.util.TreeSet;

/** The public face of the document, and rule 1 of LANGUAGE.md: no other member that can be seen from outside. */
public final class FaceTest {
    private static final String METHODS = "int row(int,int)|int lay(int,int,int)|int at(int,int)|int tear(int)"
        + "|int copy(int,int,int,int,int)|int mean(int)|int text(int,int)|int put(int,int,int)|int fault(int)"
        + "|int hotel(int)|int guest(int,int)|int mark(int,int)|int turn(int,int)|int change(int)|int lock(int,int)"
        + "|int use(int)|int undo(int)|int keep(int)|int on(int)|int things(int,int)|int both(int)|int apart(int)"
        + "|int has(int)|int fits(int,int)|int looks(int)|int drawer(int)|int lives(int)|int nearest(int,int)"
        + "|int twins(int)|int pairs()|int ring()|int who(int,int)|int marks()|int bill(int,int)|int pays(int)"
        + "|int cheapest(int,int)|int spread(int)|int odds(int,int)|int lots(int,int)|int asked()|long upper()"
        + "|long lower()|int count(int)|int finding()|int findings(int)|long digest()";
    private static final Checks c = new Checks("FaceTest");

    private static void same(String what, Set<String> got, Set<String> want) {
        c.due(what + " " + got + ", due " + want, got.equals(want) ? 1 : 0, 1);
    }

    private static String faceOf(Method m) {
        StringBuilder face = new StringBuilder(m.getReturnType() + " " + m.getName() + "(");
        for (Class<?> p : m.getParameterTypes()) {
            face.append(face.charAt(face.length() - 1) == '(' ? "" : ",").append(p);
        }
        return face.append(")").toString();
    }

    private static void methods() {
        Set<String> seen = new TreeSet<>();
        Set<String> publicNames = new TreeSet<>();
        Set<String> hiddenNames = new TreeSet<>();
        for (Method m : SecondRoom.class.getDeclaredMethods()) {
            if (Modifier.isPrivate(m.getModifiers())) {
                hiddenNames.add(m.getName());
                continue;
            }
            seen.add(faceOf(m));
            publicNames.add(m.getName());
            c.due(m + " is public, not static", m.getModifiers(), Modifier.PUBLIC);
        }
        same("methods", seen, new TreeSet<>(Arrays.asList(METHODS.split("\\|"))));
        for (Class<?> inside : SecondRoom.class.getDeclaredClasses()) {
            for (Method m : inside.getDeclaredMethods()) {
                hiddenNames.add(m.getName());
            }
        }
        hiddenNames.retainAll(publicNames);
        same("hidden methods with a public one's name", hiddenNames, Set.of());
    }

    private static void fields() throws IllegalAccessException {
        Set<String> seen = new TreeSet<>();
        for (Field f : SecondRoom.class.getDeclaredFields()) {
            int is = f.getModifiers();
            if (Modifier.isStatic(is)) {
                c.due(f + " is final", Modifier.isFinal(is) ? 1 : 0, 1);
            }
            if (!Modifier.isPrivate(is)) {
                c.due(f + " is public static final", is, Modifier.PUBLIC | Modifier.STATIC | Modifier.FINAL);
                seen.add(f.getType() + " " + f.getName() + " " + f.getInt(null));
            }
        }
        same("constants", seen, new TreeSet<>(Set.of("int BAD -1", "int FULL -2", "int FINDING -3", "int STATE -4",
            "int SPENT -6", "int NONE -9")));
    }

    private static void classes() {
        c.due("the class is public final", SecondRoom.class.getModifiers(), Modifier.PUBLIC | Modifier.FINAL);
        Constructor<?>[] made = SecondRoom.class.getDeclaredConstructors();
        c.due("one constructor", made.length, 1);
        c.due("it is public", made[0].getModifiers(), Modifier.PUBLIC);
        c.due("it takes nothing", made[0].getParameterCount(), 0);
        for (Class<?> inside : SecondRoom.class.getDeclaredClasses()) {
            int is = inside.getModifiers();
            c.due(inside + " is static", Modifier.isStatic(is) ? 1 : 0, 1);
            c.due(inside + " is not for outside", is & (Modifier.PUBLIC | Modifier.PROTECTED), 0);
        }
    }

    public static void main(String[] args) throws IllegalAccessException {
        methods();
        fields();
        classes();
        c.end();
    }
}
