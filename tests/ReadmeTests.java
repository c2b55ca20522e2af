import java.lang.reflect.Method;
import java.nio.file.Files;
import java.nio.file.Path;
import java.util.regex.Matcher;
import java.util.regex.Pattern;

/** Makes the calls of README.md's example: each must answer the number that stands behind it. */
public final class ReadmeTests {
    private static final Pattern TEXT = Pattern.compile("for \\(char c : \"(.*)\"\\.toCharArray");
    private static final Pattern CALL = Pattern.compile("^x\\.(\\w+)\\((.*)\\); +// (-?\\d+):", Pattern.MULTILINE);

    public static void main(String[] args) throws Exception {
        String readme = Files.readString(Path.of("README.md"));
        MusicWalls x = new MusicWalls();
        Matcher text = TEXT.matcher(readme);
        int passed = 0, failed = 0;
        if (text.find()) for (char c : text.group(1).toCharArray()) x.feed(c);
        for (Matcher m = CALL.matcher(readme); m.find();) {
            int got = answer(x, m.group(1), m.group(2));
            if (got == Integer.parseInt(m.group(3))) passed++;
            else {
                failed++;
                System.out.println("README.md: " + m.group() + " answered " + got);
            }
        }
        System.out.println("ReadmeTests: " + passed + " passed, " + failed + " failed");
        if (failed > 0 || passed == 0) System.exit(1);
    }

    private static int answer(MusicWalls x, String name, String list) throws Exception {
        String[] words = list.isEmpty() ? new String[0] : list.split(", ");
        Object[] numbers = new Object[words.length];
        for (int i = 0; i < words.length; i++) numbers[i] = Integer.valueOf(words[i]);
        for (Method m : MusicWalls.class.getMethods()) {
            if (m.getName().equals(name) && m.getParameterCount() == numbers.length) return (Integer) m.invoke(x, numbers);
        }
        throw new IllegalArgumentException("there is no " + name);
    }
}
