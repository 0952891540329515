import java.lang.reflect.Constructor;
import java.lang.reflect.Field;
import java.lang.reflect.Method;
import java.lang.reflect.Modifier;
import java.nio.file.Files;
import java.nio.file.Path;
import java.util.List;
import java.util.Set;
import java.util.TreeSet;
import java.util.regex.Pattern;

/** The document's face, no member more that others see, and what LANGUAGE.md rules out of the source. */
public final class FaceTest {
    private static final Set<String> FACE = new TreeSet<>(List.of(
            "int type(long, int)", "int clear()", "int laws()", "int law(int, int)",
            "int move(int, int, int, int)", "int lay(int, int, int)", "int back(int, int)", "int join(int, int)",
            "int change(int, int)", "int sees(int, int)", "int stands(int, int, int, int)", "int on(int, int)",
            "int both(int)", "int unlike(int, int)", "int set(int, int, int, int)", "int about(int, int, int)",
            "int quarrel(int, int, int)", "int forced(int, int, int)", "int knot(int, int, int, int)",
            "int line(int, int)", "int ink(int, int, int)", "int dots(int, int)", "int meet(int, int, int)",
            "int word(int)", "int rows(int, int)", "int row(int, int)", "int count(int)", "long trace()"));
    private static final Set<String> CONSTANTS = new TreeSet<>(List.of("BAD", "STATE", "FULL", "NONE"));
    private static final List<String> RULED_OUT = List.of("\\bthrow", "\\btry\\b", "\\bcatch\\b", "\\bassert\\b",
            "\\bsynchronized\\b", "->", "::", "\\bimport\\b", "\\bpackage\\b", "\\bvar\\b", "\\bprotected\\b",
            "Exact\\(", "\\bthread\\b", "\\bstatic \\{", "[^\\x00-\\x7f]");

    private static int wrong = 0;

    private static void need(boolean holds, String what) {
        if (!holds) {
            wrong++;
            System.out.println(what);
        }
    }

    public static void main(String[] args) throws Exception {
        checkMembers();
        checkNested();
        checkSource(args.length > 0 ? args[0] : "src/main/java/HandsPicture.java");
        System.out.println("FaceTest: " + wrong + " faults");
        if (wrong > 0) System.exit(1);
    }

    private static void checkMembers() {
        Class<?> it = HandsPicture.class;
        need(Modifier.isPublic(it.getModifiers()) && Modifier.isFinal(it.getModifiers()), "public and final");
        Set<String> found = new TreeSet<>();
        for (Method m : it.getDeclaredMethods()) {
            if (Modifier.isPrivate(m.getModifiers())) continue;
            String params = List.of(m.getParameterTypes()).toString().replace("[", "").replace("]", "");
            found.add(m.getReturnType() + " " + m.getName() + "(" + params + ")");
            need(Modifier.isPublic(m.getModifiers()) && !Modifier.isStatic(m.getModifiers()), m + " is not as told");
        }
        need(found.equals(FACE), "methods: " + found);
        Set<String> constants = new TreeSet<>();
        for (Field f : it.getDeclaredFields()) {
            if (Modifier.isPrivate(f.getModifiers())) continue;
            constants.add(f.getName());
            int wanted = Modifier.PUBLIC | Modifier.STATIC | Modifier.FINAL;
            need(f.getModifiers() == wanted && f.getType() == int.class, f + " is not as told");
        }
        need(constants.equals(CONSTANTS), "constants: " + constants);
        Constructor<?>[] made = it.getDeclaredConstructors();
        need(made.length == 1 && Modifier.isPublic(made[0].getModifiers()) && made[0].getParameterCount() == 0,
                "one public constructor without parameters");
    }

    private static void checkNested() {
        Set<String> names = new TreeSet<>();
        for (Method m : HandsPicture.class.getDeclaredMethods()) {
            if (Modifier.isPublic(m.getModifiers())) names.add(m.getName());
        }
        need(HandsPicture.class.getDeclaredClasses().length <= 12, "at most some twelve classes");
        for (Class<?> c : HandsPicture.class.getDeclaredClasses()) {
            need(Modifier.isStatic(c.getModifiers()) && !Modifier.isPublic(c.getModifiers()), c + " static, not public");
            for (Method m : c.getDeclaredMethods()) {
                need(!names.contains(m.getName()), m + " bears a name of the face");
                need(m.getParameterCount() <= 7, m + " has too many parameters");
            }
            int fields = 0;
            for (Field f : c.getDeclaredFields()) if (!Modifier.isStatic(f.getModifiers())) fields++;
            need(fields <= 20, c + " has too many fields");
        }
    }

    private static void checkSource(String path) throws Exception {
        String source = Files.readString(Path.of(path));
        String code = source.replaceAll("(?s)/\\*.*?\\*/", "").replaceAll("//[^\n]*", "");
        for (String rule : RULED_OUT) {
            need(!Pattern.compile(rule).matcher(code).find(), "the source has " + rule);
        }
        Set<String> library = new TreeSet<>();
        var called = Pattern.compile("\\b(?:Math|Integer|Long|System|Arrays)\\.\\w+").matcher(code);
        while (called.find()) library.add(called.group());
        Set<String> allowed = Set.of("Math.abs", "Math.max", "Math.min", "Math.floorDiv", "Math.floorMod",
                "Integer.bitCount", "Long.bitCount", "System.arraycopy");
        need(allowed.containsAll(library), "of the library: " + library);
    }
}
