import java.lang.reflect.Field;
import java.lang.reflect.Method;
import java.lang.reflect.Modifier;
import java.nio.file.Files;
import java.nio.file.Path;
import java.util.Set;
import java.util.TreeSet;
import java.util.regex.Matcher;
import java.util.regex.Pattern;

/** The public face, and what of LANGUAGE.md can be told from the class and its words. */
public final class FaceTest {
    private static final String[] FACE = {"feed 5", "end 1", "format 3", "mount 1", "save 3", "load 2", "scratch 2",
        "list 0", "info 0", "out 1", "status 1", "peek 2", "poke 3", "stamp 3", "turn 2", "syncs 1", "read 2",
        "write 2", "count 1"};

    private static final Set<Class<?>> CONSTANTS = Set.of(int.class, long.class, boolean.class, char.class,
        String.class, int[].class, long[].class, char[].class, byte[].class);

    public static void main(String[] args) throws Exception {
        Class<?> type = BitDrive.class;
        int modifiers = type.getModifiers();
        Check.due("public final", Modifier.isPublic(modifiers) && Modifier.isFinal(modifiers) ? 1 : 0, 1);
        Check.due("constructors", type.getDeclaredConstructors().length, 1);
        Check.due("public constructors", type.getConstructors().length, 1);
        Set<String> names = new TreeSet<>();
        Set<String> face = new TreeSet<>();
        for (String entry : FACE) {
            face.add(entry.split(" ")[0]);
        }
        for (Method method : type.getDeclaredMethods()) {
            if (Modifier.isPrivate(method.getModifiers())) {
                Check.due("private " + method.getName(), face.contains(method.getName()) ? 1 : 0, 0);
                continue;
            }
            names.add(method.getName() + " " + method.getParameterCount());
            boolean plain = method.getReturnType() == int.class && Modifier.isPublic(method.getModifiers())
                    && !Modifier.isStatic(method.getModifiers());
            Check.due("public int " + method.getName(), plain ? 1 : 0, 1);
        }
        Check.due("the face's methods", names.equals(new TreeSet<>(Set.of(FACE))) ? 1 : 0, 1);
        for (Field field : type.getDeclaredFields()) {
            Check.due("private " + field.getName(), Modifier.isPrivate(field.getModifiers()) ? 1 : 0, 1);
        }
        checkInside(type);
        checkShape(type);
        Check.due("files of the program", Project.list(Path.of("src/main/java")).size(), 1);
        checkWords();
        Check.finish();
    }

    private static void checkInside(Class<?> type) {
        Class<?>[] classes = type.getDeclaredClasses();
        Check.due("at most twelve classes", classes.length < 12 ? 1 : 0, 1);
        for (Class<?> inside : classes) {
            int modifiers = inside.getModifiers();
            Check.due("static " + inside, Modifier.isStatic(modifiers) ? 1 : 0, 1);
            Check.due("not public " + inside, modifiers & (Modifier.PUBLIC | Modifier.PROTECTED), 0);
            checkShape(inside);
        }
    }

    /** What LANGUAGE.md's rules 5 and 11 say of static fields, parameters and how many fields there are. */
    private static void checkShape(Class<?> type) {
        int fields = 0;
        for (Field field : type.getDeclaredFields()) {
            if (!Modifier.isStatic(field.getModifiers())) {
                fields++;
                continue;
            }
            Check.due("final " + field, Modifier.isFinal(field.getModifiers()) ? 1 : 0, 1);
            Check.due("a constant's type of " + field, CONSTANTS.contains(field.getType()) ? 1 : 0, 1);
        }
        Check.due("at most twenty fields in " + type, fields <= 20 ? 1 : 0, 1);
        for (Method method : type.getDeclaredMethods()) {
            Check.due("at most seven parameters of " + method, method.getParameterCount() <= 7 ? 1 : 0, 1);
        }
    }

    private static void checkWords() throws Exception {
        String source = Files.readString(Path.of("src/main/java/BitDrive.java"));
        String code = source.replaceAll("(?s)/\\*.*?\\*/", "").replaceAll("//[^\n]*", "");
        Matcher matcher = Pattern.compile(
                "\\b(throws?|try|catch|finally|synchronized|assert|import|package|volatile|native|\\w+Exact)\\b|->|::")
                .matcher(code);
        while (matcher.find()) {
            Check.due("the word " + matcher.group(), 1, 0);
        }
    }
}
