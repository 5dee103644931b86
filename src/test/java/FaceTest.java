import java.lang.reflect.Constructor;
import java.lang.reflect.Field;
import java.lang.reflect.Method;
import java.lang.reflect.Modifier;
import java.util.Set;
import java.util.TreeSet;

/** The public face, and LANGUAGE.md's rules 1, 5 and 11 as far as the compiled class shows them. */
public final class FaceTest {
    private static final Check CHECK = new Check("FaceTest");
    private static final String[] METHODS = {
        "int heap(int,int)", "int change(int,int,int)", "int drop()", "int seats(int)", "int worth(int,int)",
        "int say(int)", "int wipe()", "int fault()", "int hall()", "int open()", "int of(int,int)",
        "int choose(int,int)", "long load(int,int,int)", "long purse(int,int,int)", "int paid()",
        "int owed(int,int)", "int breach(int,int,int)", "int kept(int,int)", "int least(int)",
        "int nearest(int,int)", "int more(int,int)", "int turn(int,int,int)", "int told(int)"};

    private static String described(Method m) {
        StringBuilder s = new StringBuilder(m.getReturnType() + " " + m.getName() + "(");
        for (Class<?> p : m.getParameterTypes()) {
            s.append(s.charAt(s.length() - 1) == '(' ? "" : ",").append(p.getName());
        }
        return s.append(')').toString();
    }

    private static void methods() {
        Set<String> wanted = new TreeSet<>(Set.of(METHODS));
        Set<String> found = new TreeSet<>();
        Set<String> names = new TreeSet<>();
        for (Method m : FairSeats.class.getDeclaredMethods()) {
            if (!Modifier.isPrivate(m.getModifiers())) {
                found.add(described(m));
                names.add(m.getName());
                CHECK.holds(m + " is public and of the object", m.getModifiers() == Modifier.PUBLIC);
            }
        }
        CHECK.holds("methods " + found + " are " + wanted, found.equals(wanted));
        for (Method m : FairSeats.class.getDeclaredMethods()) {
            CHECK.holds(m + " bears a name of its own", !Modifier.isPrivate(m.getModifiers()) || !names.contains(m.getName()));
        }
        for (Class<?> inside : FairSeats.class.getDeclaredClasses()) {
            for (Method m : inside.getDeclaredMethods()) {
                CHECK.holds(m + " bears a name of its own", !names.contains(m.getName()));
                CHECK.holds(m + " takes seven at most", m.getParameterCount() <= 7);
            }
        }
    }

    private static void constants() throws IllegalAccessException {
        String[] names = {"NONE", "UNKNOWN", "OUTSIDE", "STATE", "FULL", "NO", "LOST"};
        long[] due = {-6, -1, -2, -3, -4, -5, -1000000000000000000L};
        int seen = 0;
        for (Field f : FairSeats.class.getDeclaredFields()) {
            if (Modifier.isPrivate(f.getModifiers())) {
                continue;
            }
            seen++;
            int at = java.util.List.of(names).indexOf(f.getName());
            CHECK.holds(f + " is of the face", at >= 0
                && f.getModifiers() == (Modifier.PUBLIC | Modifier.STATIC | Modifier.FINAL)
                && f.getType() == (at == 6 ? long.class : int.class));
            CHECK.due(f.getName(), at >= 0 ? f.getLong(null) : 0, at >= 0 ? due[at] : 1);
        }
        CHECK.due("how many constants", seen, names.length);
    }

    private static void classes() {
        Class<?> face = FairSeats.class;
        CHECK.holds("public and final", face.getModifiers() == (Modifier.PUBLIC | Modifier.FINAL));
        CHECK.holds("no package", face.getPackageName().isEmpty());
        Constructor<?>[] made = face.getDeclaredConstructors();
        CHECK.holds("one public constructor of nothing", made.length == 1
            && made[0].getModifiers() == Modifier.PUBLIC && made[0].getParameterCount() == 0);
        CHECK.holds("some twelve classes", face.getDeclaredClasses().length <= 12);
        for (Class<?> inside : face.getDeclaredClasses()) {
            CHECK.holds(inside + " is static and not public",
                Modifier.isStatic(inside.getModifiers()) && !Modifier.isPublic(inside.getModifiers())
                && !Modifier.isProtected(inside.getModifiers()));
            for (Field f : inside.getDeclaredFields()) {
                CHECK.holds(f + " is no static state", !Modifier.isStatic(f.getModifiers()) || Modifier.isFinal(f.getModifiers()));
            }
        }
    }

    public static void main(String[] args) throws IllegalAccessException {
        methods();
        constants();
        classes();
        CHECK.end();
    }
}
