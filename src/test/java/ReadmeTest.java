import java.io.IOException;
import java.nio.file.FileVisitOption;
import java.nio.file.Files;
import java.nio.file.Path;
import java.util.ArrayList;
import java.util.List;
import java.util.stream.Stream;

/** README.md: its example is the file that it names and prints what it says, and each command that it gives works. */
public final class ReadmeTest {
    /** The one command that would run this test again. */
    private static final String ALL_TESTS = "sh .ci/run";
    private static final String EXAMPLE = "java -cp out/use Use";

    private final Path root;
    /** Commands write below out, so they are given in a copy. */
    private final Path copy;
    private final List<String> readme;
    private int wrong = 0;

    private ReadmeTest(Path root, Path work) throws IOException {
        this.root = root;
        this.copy = work.resolve("main");
        this.readme = Files.readAllLines(root.resolve("README.md"));
        copy(root.resolve("src"), copy.resolve("src"));
        copy(root.resolve("../shared"), work.resolve("shared"));
    }

    private static void copy(Path from, Path to) throws IOException {
        try (Stream<Path> all = Files.walk(from.toRealPath(), FileVisitOption.FOLLOW_LINKS)) {
            for (Path one : (Iterable<Path>) all::iterator) {
                Path target = to.resolve(from.toRealPath().relativize(one).toString());
                if (Files.isDirectory(one)) {
                    Files.createDirectories(target);
                } else {
                    Files.write(target, Files.readAllBytes(one));
                }
            }
        }
    }

    private static void delete(Path folder) throws IOException {
        List<Path> deepestLast = new ArrayList<>();
        try (Stream<Path> all = Files.walk(folder)) {
            all.forEach(deepestLast::add);
        }
        for (int i = deepestLast.size() - 1; i >= 0; i--) {
            Files.delete(deepestLast.get(i));
        }
    }

    private void wrong(String what) {
        wrong++;
        System.out.println("README.md: " + what);
    }

    /** The blocks of this sort, one text each. */
    private List<String> blocks(String sort) {
        List<String> out = new ArrayList<>();
        StringBuilder block = null;
        for (String line : readme) {
            if (block == null) {
                block = line.equals("```" + sort) ? new StringBuilder() : null;
            } else if (line.equals("```")) {
                out.add(block.toString());
                block = null;
            } else {
                block.append(line).append('\n');
            }
        }
        return out;
    }

    /** What the command printed; one that fails is a fault. */
    private String command(String line) throws Exception {
        Path log = copy.resolve("log");
        Process p = new ProcessBuilder("sh", "-c", line).directory(copy.toFile())
                .redirectErrorStream(true).redirectOutput(log.toFile()).start();
        int exit = p.waitFor();
        String printed = Files.readString(log);
        if (exit != 0) {
            wrong(line + " ended with " + exit + ": " + printed);
        }
        return printed;
    }

    private void due(String what, Object want, Object got) {
        if (!want.equals(got)) {
            wrong(what + " is " + got + ", due is " + want);
        }
    }

    private void commands() throws Exception {
        int given = 0;
        boolean example = false;
        boolean allTests = false;
        for (String block : blocks("sh")) {
            for (String line : block.split("\n")) {
                if (line.equals(ALL_TESTS)) {
                    allTests = true;
                    continue;
                }
                String printed = command(line);
                given++;
                if (line.equals(EXAMPLE)) {
                    example = true;
                    due("what the example prints", List.of(printed), blocks("text"));
                }
            }
        }
        due("that the example is run", true, example);
        due("that all tests are run", true, allTests && Files.exists(root.resolve(".ci/run")));
        System.out.println(given + " commands of README.md were given");
    }

    private void names() throws Exception {
        due("the example", List.of(Files.readString(root.resolve("src/example/java/Use.java"))), blocks("java"));
        String all = String.join("\n", readme);
        try (Stream<Path> tests = Files.list(root.resolve("src/test/java"))) {
            for (Path test : (Iterable<Path>) tests::iterator) {
                String name = test.getFileName().toString().replace(".java", "");
                if (name.endsWith("Test") && !all.contains(name)) {
                    wrong("says nothing of " + name);
                }
            }
        }
        for (java.lang.reflect.Method call : TrailStore.class.getDeclaredMethods()) {
            if (java.lang.reflect.Modifier.isPublic(call.getModifiers()) && !all.contains("`" + call.getName() + "`")) {
                wrong("says nothing of the call " + call.getName());
            }
        }
    }

    public static void main(String[] args) throws Exception {
        Path work = Files.createTempDirectory("readme");
        ReadmeTest test = new ReadmeTest(Path.of(args[0]), work);
        test.names();
        test.commands();
        delete(work);
        if (test.wrong != 0) {
            System.exit(1);
        }
    }
}
