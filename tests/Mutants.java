import java.io.IOException;
import java.nio.file.Files;
import java.nio.file.Path;
import java.util.ArrayList;
import java.util.List;
import java.util.concurrent.ExecutorService;
import java.util.concurrent.Executors;
import java.util.concurrent.Future;
import java.util.concurrent.TimeUnit;
import java.util.regex.Matcher;
import java.util.regex.Pattern;
import javax.tools.ToolProvider;

/**
 * Breaks the class in one place after the other and runs one test class against each: tells the breaks that no test sees.
 * Not a part of .ci/run. From the project's directory: java tests/Mutants.java BoundaryTests
 */
public final class Mutants {
    private static final String SOURCE = "src/main/java/MusicWalls.java";
    private static final String[][] SIGNS = {
        {" < ", " <= ", " >= "}, {" > ", " >= ", " <= "}, {" <= ", " < "}, {" >= ", " > "}, {" == ", " != "}, {" != ", " == "},
        {" && ", " || "}, {" || ", " && "}, {" + ", " - "}, {" - ", " + "}, {" * ", " + "}, {" / ", " * "}, {" % ", " / "},
        {"++;", "--;", "+= 2;"}, {" += ", " -= "}, {" -= ", " += "}, {" |= ", " &= ", " ^= "}, {" &= ", " |= "},
        {"true", "false"}, {"false", "true"}, {"Math.min", "Math.max"}, {"Math.max", "Math.min"}, {"break;", ""}, {"continue;", ""},
        {" << ", " >> "}, {" >> ", " << "}, {"!", ""}, {" ^ ", " | "}};

    private record Mutant(int line, String was, String is, String text) { }

    public static void main(String[] args) throws Exception {
        Path work = Files.createTempDirectory("mutants");
        String source = Files.readString(Path.of(SOURCE));
        List<Path> tests;
        try (var files = Files.list(Path.of("tests"))) {
            tests = files.filter(f -> f.toString().endsWith(".java") && !f.endsWith("Mutants.java")).toList();
        }
        compile(work, source, tests);
        List<Mutant> mutants = mutants(source);
        ExecutorService pool = Executors.newFixedThreadPool(Runtime.getRuntime().availableProcessors());
        List<Future<String>> ends = new ArrayList<>();
        for (int i = 0; i < mutants.size(); i++) {
            Mutant m = mutants.get(i);
            Path own = work.resolve("m" + i);
            ends.add(pool.submit(() -> end(m, own, work, args[0])));
        }
        int[] count = new int[3];
        for (int i = 0; i < mutants.size(); i++) {
            String end = ends.get(i).get();
            count["seen unseen stillborn".indexOf(end) / 5]++;
            Mutant m = mutants.get(i);
            if (end.equals("unseen")) System.out.println("line " + m.line + ": " + m.was.strip() + "   ->   " + m.is.strip());
        }
        pool.shutdown();
        System.out.println(mutants.size() + " breaks: " + count[0] + " seen, " + count[1] + " unseen, " + count[2] + " do not compile");
    }

    private static void compile(Path out, String source, List<Path> tests) throws IOException {
        List<String> args = new ArrayList<>(List.of("-nowarn", "-d", out.toString()));
        Path file = Files.createDirectories(out).resolve("MusicWalls.java");
        Files.writeString(file, source);
        args.add(file.toString());
        for (Path t : tests) args.add(t.toString());
        if (ToolProvider.getSystemJavaCompiler().run(null, null, java.io.OutputStream.nullOutputStream(), args.toArray(new String[0])) != 0) {
            throw new IOException("does not compile");
        }
    }

    private static String end(Mutant m, Path own, Path tests, String name) throws Exception {
        try {
            compile(own, m.text, List.of());
        } catch (IOException e) {
            return "stillborn";
        }
        Process p = new ProcessBuilder("java", "-XX:TieredStopAtLevel=1", "-cp", own + ":" + tests, name, SOURCE)
            .redirectErrorStream(true).redirectOutput(ProcessBuilder.Redirect.DISCARD).start();
        boolean ended = p.waitFor(20, TimeUnit.SECONDS);
        if (!ended) p.destroyForcibly();
        return ended && p.exitValue() == 0 ? "unseen" : "seen";
    }

    private static List<Mutant> mutants(String source) {
        List<Mutant> all = new ArrayList<>();
        String[] lines = source.split("\n");
        for (int i = 0; i < lines.length; i++) {
            String line = lines[i];
            String code = line.strip();
            if (code.startsWith("/**") || code.startsWith("*") || code.startsWith("//") || code.startsWith("import")) continue;
            for (String[] sign : SIGNS) {
                for (int at = line.indexOf(sign[0]); at >= 0; at = line.indexOf(sign[0], at + 1)) {
                    for (int k = 1; k < sign.length; k++) add(all, lines, i, at, at + sign[0].length(), sign[k]);
                }
            }
            Matcher n = Pattern.compile("\\b(\\d+)\\b|'.'|\\b[A-Z][A-Z_]+\\b(?! =)").matcher(line);
            while (n.find()) {
                add(all, lines, i, n.start(), n.end(), "(" + n.group() + " + 1)");
                add(all, lines, i, n.start(), n.end(), "(" + n.group() + " - 1)");
            }
            if (code.matches("[a-zA-Z.\\[\\]]+(\\(.*\\)| [-+|&]?= .*|\\+\\+);")) add(all, lines, i, 0, line.length(), ";");
            Matcher c = Pattern.compile("if \\((.*)\\) (return|break|continue|fail|[a-z.A-Z]+)").matcher(line);
            if (c.find()) {
                add(all, lines, i, c.start(1), c.end(1), "false");
                add(all, lines, i, c.start(1), c.end(1), "!(" + c.group(1) + ")");
            }
        }
        return all;
    }

    private static void add(List<Mutant> all, String[] lines, int i, int from, int to, String by) {
        String[] broken = lines.clone();
        broken[i] = lines[i].substring(0, from) + by + lines[i].substring(to);
        all.add(new Mutant(i + 1, lines[i], broken[i], String.join("\n", broken) + "\n"));
    }
}
