import java.lang.reflect.Constructor;
import java.lang.reflect.Field;
import java.lang.reflect.Method;
import java.lang.reflect.Modifier;
import java.util.List;
import java.util.Set;
import java.util.TreeSet;

/** The document's face, and no member more that others see. */
public final class FaceTest {
    private static final Set<String> FACE = new TreeSet<>(List.of(
            "int type(long, int)", "int clear()", "int laws()", "int law(int, int)",
            "int move(int, int, int, int)", "int lay(int, int, int)", "int back(int, int)", "int join(int, int)",
            "int change(int, int)", "int sees(int, int)", "int stands(int, int, int, int)", "int on(int, int)",
            "int both(int)", "int unlike(int, int)", "int set(int, int, int, int)", "int about(int, int, int)",
            "int quarrel(int, int, int)", "int forced(int, int, int)", "int knot(int, int, int, int)",
            "int line(int, int)", "int ink(int, int, int)", "int dots(int, int)", "int meet(int, int, int)",
            "int word(int)", "int rows(int, int)", "int row(int, int)", "int count(int)", "long trace()"));
    private static final Set<String> CONSTANTS = new TreeSet<>(List.of("BAD", "STATE", "FULL", "NONE"));

    private static int wrong = 0;

    private static void need(boolean holds, String what) {
        if (!holds) {
            wrong++;
            System.out.println(what);
        }
    }

    public static void main(String[] args) {
        checkMembers();
        System.out.println("FaceTest: " + wrong + " faults");
        if (wrong > 0) System.exit(1);
    }

    private static void checkMembers() {
        Class<?> it = HandsPicture.class;
        need(Modifier.isPublic(it.getModifiers()) && Modifier.isFinal(it.getModifiers()), "public and final");
        Set<String> found = new TreeSet<>();
        for (Method m : it.getDeclaredMethods()) {
            if (Modifier.isPrivate(m.getModifiers())) continue;
            String params = List.of(m.getParameterTypes()).toString().replace("[", "").replace("]", "");
            found.add(m.getReturnType() + " " + m.getName() + "(" + params + ")");
            need(Modifier.isPublic(m.getModifiers()) && !Modifier.isStatic(m.getModifiers()), m + " is not as told");
        }
        need(found.equals(FACE), "methods: " + found);
        Set<String> constants = new TreeSet<>();
        for (Field f : it.getDeclaredFields()) {
            if (Modifier.isPrivate(f.getModifiers())) continue;
            constants.add(f.getName());
            int wanted = Modifier.PUBLIC | Modifier.STATIC | Modifier.FINAL;
            need(f.getModifiers() == wanted && f.getType() == int.class, f + " is not as told");
        }
        need(constants.equals(CONSTANTS), "constants: " + constants);
        Constructor<?>[] made = it.getDeclaredConstructors();
        need(made.length == 1 && Modifier.isPublic(made[0].getModifiers()) && made[0].getParameterCount() == 0,
                "one public constructor without parameters");
    }
}
