import java.lang.reflect.Constructor;
import java.lang.reflect.Field;
import java.lang.reflect.Member;
import java.lang.reflect.Method;
import java.lang.reflect.Modifier;
import java.nio.file.Files;
import java.nio.file.Path;
import java.util.Arrays;
import java.util.HashSet;
import java.util.List;
import java.util.Set;
import java.util.TreeSet;
import java.util.regex.Matcher;
import java.util.regex.Pattern;

/** The document's face, and those rules of LANGUAGE.md that can be read off the class or its text. */
public final class FaceTests {
    private static final List<String> FACE = List.of("feed 1", "house 0", "fault 0", "told 1", "room 2", "bar 3", "person 2",
        "wall 2", "logged 2", "hour 1", "lift 2", "paste 2", "moveTo 2", "pace 2", "drift 1", "undo 1", "where 2", "meets 1",
        "together 2", "canon 3", "bestCanon 3", "match 4", "join 2", "shortest 1", "nearest 1", "modulation 2", "sounds 1",
        "dry 2", "see 2", "places 1", "lookAt 0", "write 3", "judge 0", "tear 0", "seed 1", "keep 1", "goBack 1");
    private static final Set<String> CONSTANTS = Set.of("NONE", "UNKNOWN", "OUTSIDE", "NOT", "FULL");

    private static int passed = 0;
    private static int failed = 0;

    private static void holds(String what, boolean is) {
        if (is) {
            passed++;
            return;
        }
        failed++;
        System.out.println("face: " + what);
    }

    public static void main(String[] args) throws Exception {
        methods();
        fields();
        classes();
        text(Files.readString(Path.of(args[0])));
        System.out.println("FaceTests: " + passed + " passed, " + failed + " failed");
        if (failed > 0) System.exit(1);
    }

    private static boolean isPrivate(Member m) {
        return Modifier.isPrivate(m.getModifiers());
    }

    private static void methods() {
        Set<String> open = new TreeSet<>();
        Set<String> names = new HashSet<>();
        for (Method m : MusicWalls.class.getDeclaredMethods()) {
            if (isPrivate(m)) continue;
            open.add(m.getName() + " " + m.getParameterCount());
            names.add(m.getName());
            holds(m + " is public, of int", m.getReturnType() == int.class && Modifier.isPublic(m.getModifiers())
                && !Modifier.isStatic(m.getModifiers()));
            holds(m + " takes int", Arrays.stream(m.getParameterTypes()).allMatch(t -> t == int.class));
        }
        holds("the methods are " + open, open.equals(new TreeSet<>(FACE)));
        for (Class<?> c : allClasses()) {
            for (Method m : c.getDeclaredMethods()) {
                holds(m + " bears a public name", c == MusicWalls.class && !isPrivate(m) || !names.contains(m.getName()));
                holds(m + " takes too much", m.getParameterCount() <= 7);
            }
        }
        Constructor<?>[] made = MusicWalls.class.getDeclaredConstructors();
        holds("one public constructor", made.length == 1 && made[0].getParameterCount() == 0 && Modifier.isPublic(made[0].getModifiers()));
    }

    private static List<Class<?>> allClasses() {
        List<Class<?>> all = new java.util.ArrayList<>(List.of(MusicWalls.class.getDeclaredClasses()));
        all.add(MusicWalls.class);
        return all;
    }

    private static void fields() {
        Set<String> open = new HashSet<>();
        for (Field f : MusicWalls.class.getDeclaredFields()) if (!isPrivate(f)) open.add(f.getName());
        holds("the constants are " + open, open.equals(CONSTANTS));
        for (Class<?> c : allClasses()) {
            int own = 0;
            for (Field f : c.getDeclaredFields()) {
                if (Modifier.isStatic(f.getModifiers())) holds(f + " is not final", Modifier.isFinal(f.getModifiers()));
                else own++;
            }
            holds(c + " has " + own + " fields", own <= 20);
        }
    }

    private static void classes() {
        holds("public and final", Modifier.isPublic(MusicWalls.class.getModifiers()) && Modifier.isFinal(MusicWalls.class.getModifiers()));
        holds("some twelve classes", allClasses().size() <= 12);
        for (Class<?> c : MusicWalls.class.getDeclaredClasses()) {
            holds(c + " is static", Modifier.isStatic(c.getModifiers()));
            holds(c + " is seen", !Modifier.isPublic(c.getModifiers()) && !Modifier.isProtected(c.getModifiers()));
        }
    }

    private static void text(String text) {
        Matcher m = Pattern.compile("/\\*.*?\\*/|//[^\\n]*", Pattern.DOTALL).matcher(text);
        String code = m.replaceAll(" ");
        for (String word : List.of("throw", "throws", "try", "catch", "synchronized", "assert", "instanceof", "double", "float",
            "package", "System.out", "Math.*Exact", "hashCode", "toString", "new Random", "nanoTime", "Thread")) {
            holds("the word " + word, !Pattern.compile("\\b" + word + "\\b").matcher(code).find());
        }
        holds("a lambda or a method reference", !code.contains("->") && !code.contains("::"));
        holds("signs beyond 127", text.chars().allMatch(c -> c < 128));
        Matcher imports = Pattern.compile("import ([^;]+);").matcher(code);
        while (imports.find()) holds("imports " + imports.group(1), imports.group(1).equals("java.util.Arrays"));
        methodLengths(text);
    }

    private static void methodLengths(String text) {
        String[] lines = text.split("\n");
        int from = -1;
        for (int i = 0; i < lines.length; i++) {
            boolean opens = lines[i].matches(" {4}( {4})?\\S.*\\) \\{");
            if (opens) from = i;
            if (from >= 0 && lines[i].matches(" {4}( {4})?}")) {
                holds("a long method at line " + (from + 1), i - from <= 60);
                from = -1;
            }
        }
    }
}
