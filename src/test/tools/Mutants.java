import java.nio.file.Files;
import java.nio.file.Path;
import java.util.ArrayList;
import java.util.Collections;
import java.util.LinkedHashSet;
import java.util.List;
import java.util.Set;
import java.util.concurrent.ExecutorService;
import java.util.concurrent.Executors;
import java.util.concurrent.Future;
import java.util.concurrent.TimeUnit;
import java.util.regex.Matcher;
import java.util.regex.Pattern;

/**
 * Run by hand, not by .ci/run: java src/test/tools/Mutants.java ROOT [LINE ..] [TEST ..]. Breaks TrailStore in each place
 * (of these lines) that it knows a way for, one place at a time, and says which breaks none of the tests (without any
 * named: the Edge tests) sees. All lines take some twenty minutes.
 */
public final class Mutants {
    private static final String[][] SWAPS = {{" < ", " <= "}, {" <= ", " < "}, {" > ", " >= "}, {" >= ", " > "}, {" == ", " != "},
        {" != ", " == "}, {" && ", " || "}, {" || ", " && "}, {" + ", " - "}, {" - ", " + "}, {" & ", " | "}, {" | ", " & "},
        {"true", "false"}, {"false", "true"}, {"~", ""}, {" << ", " >>> "}, {" >>> ", " << "}, {"Math.max", "Math.min"},
        {"Math.min", "Math.max"}, {"continue;", "break;"}, {"NONE;", "-2;"}, {"++", "--"}, {"--;", "++;"}, {" += ", " -= "},
        {" |= ", " &= "}, {" &= ", " |= "}, {"(byte) ", "(short) "}, {"(short) ", ""}, {" / ", " * "}, {" % ", " / "}, {"!", ""}};
    private static final Pattern NUMBER = Pattern.compile("(?<![\\w.'])\\d+(?![\\w'])");
    private static final Pattern STATEMENT = Pattern.compile("^ +(?!return|int |long |boolean |final |private |break|continue|throw |public )[\\w.\\[\\]]+.*;$");

    private final Path root;
    private final Path work;
    private final List<String> tests;
    private final Set<Integer> wanted;
    private final List<String> lines;

    private Mutants(Path root, Path work, List<String> tests, Set<Integer> wanted) throws Exception {
        this.root = root;
        this.work = work;
        this.tests = tests;
        this.wanted = wanted;
        this.lines = Files.readAllLines(root.resolve("src/main/java/TrailStore.java"));
    }

    private static Set<String> breaks(String line) {
        Set<String> out = new LinkedHashSet<>();
        String trimmed = line.trim();
        if (trimmed.startsWith("//") || trimmed.startsWith("*") || trimmed.startsWith("/*") || trimmed.startsWith("import")) {
            return out;
        }
        for (String[] swap : SWAPS) {
            for (int at = line.indexOf(swap[0]); at >= 0; at = line.indexOf(swap[0], at + 1)) {
                out.add(line.substring(0, at) + swap[1] + line.substring(at + swap[0].length()));
            }
        }
        Matcher m = NUMBER.matcher(line);
        while (m.find()) {
            long n = Long.parseLong(m.group());
            for (long other : new long[] {n + 1, n - 1}) {
                out.add(line.substring(0, m.start()) + (other < 0 ? "(" + other + ")" : other) + line.substring(m.end()));
            }
        }
        if (STATEMENT.matcher(line).find()) {
            out.add("");
        }
        out.remove(line);
        return out;
    }

    private int command(Path log, int seconds, String... words) throws Exception {
        Process p = new ProcessBuilder(words).redirectErrorStream(true).redirectOutput(log.toFile()).start();
        if (!p.waitFor(seconds, TimeUnit.SECONDS)) {
            p.destroyForcibly().waitFor();
            return -1;
        }
        return p.exitValue();
    }

    /** What became of it; null: a test saw it. */
    private String tried(int n, int line, String broken) throws Exception {
        Path at = Files.createDirectories(work.resolve("m" + n));
        List<String> text = new ArrayList<>(lines);
        text.set(line, broken);
        Files.write(at.resolve("TrailStore.java"), text);
        Path log = at.resolve("log");
        String result = null;
        if (command(log, 60, "javac", "--release", "17", "-d", at.toString(), at.resolve("TrailStore.java").toString()) == 0) {
            boolean seen = false;
            for (String test : tests) {
                String path = at + ":" + work.resolve("tests");
                seen = seen || command(log, 120, "java", "-XX:TieredStopAtLevel=1", "-XX:+UseSerialGC", "-cp", path, test, root.toString()) != 0;
            }
            if (!seen) {
                result = "line " + (line + 1) + ":\n  was     " + lines.get(line).trim() + "\n  became  " + broken.trim();
            }
        }
        command(log, 60, "rm", "-rf", at.toString());
        return result;
    }

    private void go() throws Exception {
        List<String> compile = new ArrayList<>(List.of("javac", "--release", "17", "-d", work.resolve("tests").toString(), "-sourcepath",
                root.resolve("src/test/java") + ":" + root.resolve("src/main/java")));
        for (String test : tests) {
            compile.add(root.resolve("src/test/java/" + test + ".java").toString());
        }
        if (command(work.resolve("log"), 120, compile.toArray(new String[0])) != 0) {
            System.out.println(Files.readString(work.resolve("log")));
            System.exit(1);
        }
        Files.deleteIfExists(work.resolve("tests/TrailStore.class"));
        ExecutorService pool = Executors.newFixedThreadPool(Runtime.getRuntime().availableProcessors());
        List<Future<String>> all = new ArrayList<>();
        for (int i = 0; i < lines.size(); i++) {
            if (!wanted.isEmpty() && !wanted.contains(i + 1)) {
                continue;
            }
            for (String broken : breaks(lines.get(i))) {
                int n = all.size();
                int line = i;
                all.add(pool.submit(() -> tried(n, line, broken)));
            }
        }
        pool.shutdown();
        int unseen = 0;
        for (Future<String> one : all) {
            if (one.get() != null) {
                unseen++;
                System.out.println(one.get());
            }
        }
        System.out.println(all.size() + " breaks, " + unseen + " of them unseen");
    }

    public static void main(String[] args) throws Exception {
        Path root = Path.of(args.length > 0 ? args[0] : ".").toAbsolutePath().normalize();
        List<String> tests = new ArrayList<>();
        Set<Integer> wanted = new LinkedHashSet<>();
        for (int i = 1; i < args.length; i++) {
            if (args[i].matches("\\d+")) {
                wanted.add(Integer.parseInt(args[i]));
            } else {
                tests.add(args[i]);
            }
        }
        if (tests.isEmpty()) {
            try (var files = Files.list(root.resolve("src/test/java"))) {
                files.map(f -> f.getFileName().toString()).filter(f -> f.startsWith("Edge") && f.endsWith("Test.java"))
                        .forEach(f -> tests.add(f.replace(".java", "")));
            }
            Collections.sort(tests);
        }
        Path work = Files.createTempDirectory("mutants");
        Mutants mutants = new Mutants(root, work, tests, wanted);
        mutants.go();
        // what is told of the last command may not stand in what it deletes
        Path log = Files.createTempFile("mutants", "log");
        mutants.command(log, 60, "rm", "-rf", work.toString());
        Files.delete(log);
    }
}
