import java.lang.reflect.Executable;
import java.lang.reflect.Field;
import java.lang.reflect.Method;
import java.lang.reflect.Modifier;
import java.nio.file.Files;
import java.nio.file.Path;
import java.util.ArrayList;
import java.util.List;
import java.util.Set;
import java.util.TreeSet;
import java.util.regex.Matcher;
import java.util.regex.Pattern;

/** What of LANGUAGE.md can be seen without a reader: words it leaves out, and its measures. */
public final class LanguageTest {
    private static final String[] FORBIDDEN = {"->", "::", "\\btry\\b", "\\bcatch\\b", "\\bfinally\\b", "\\bsynchronized\\b",
        "\\bassert\\b", "\\bpackage\\b", "\\bprotected\\b", "\\bdouble\\b", "\\bfloat\\b", "\\bThread\\b", "\\bRandom\\b", "Exact\\(",
        "hashCode", "toString", "getMessage", "System\\.(?!arraycopy)", "Math\\.(?!max|min)", "Integer\\.(?!bitCount|numberOf)",
        "Arrays\\.(?!fill)", "\" *\\+", "\\+ *\"", "\\bstatic \\{"};

    private static int wrong = 0;

    private static void wrong(String what) {
        wrong++;
        System.out.println(what);
    }

    private static void words(List<String> lines) {
        for (int i = 0; i < lines.size(); i++) {
            String line = lines.get(i);
            String code = line.replaceAll("//.*", "").replaceAll("^ */?\\*.*", "");
            for (String word : FORBIDDEN) {
                if (Pattern.compile(word).matcher(code).find()) {
                    wrong("line " + (i + 1) + " has " + word + ": " + line.trim());
                }
            }
            if (line.startsWith("import ") && !line.matches("import java\\.util\\.(Arrays|NoSuchElementException);")) {
                wrong("line " + (i + 1) + ": " + line);
            }
            Matcher thrown = Pattern.compile("\\bthrow\\b(?! new NoSuchElementException\\(\\);)").matcher(code);
            if (thrown.find()) {
                wrong("line " + (i + 1) + ": " + line.trim());
            }
            for (char sign : line.toCharArray()) {
                if (sign > 126 || sign < 32) {
                    wrong("line " + (i + 1) + " has the sign " + (int) sign);
                }
            }
        }
    }

    private static void lengths(List<String> lines) {
        for (int i = 0; i < lines.size(); i++) {
            Matcher head = Pattern.compile("^( +)(?!private static final class)[a-zA-Z].*\\) *(throws \\w+ )?\\{$").matcher(lines.get(i));
            if (head.find() && (head.group(1).length() == 4 || head.group(1).length() == 8)) {
                int end = i;
                while (!lines.get(end).equals(head.group(1) + "}")) {
                    end++;
                }
                if (end - i + 1 > 60) {
                    wrong("too long: " + lines.get(i).trim());
                }
            }
        }
    }

    private static void measures() {
        List<Class<?>> classes = new ArrayList<>(List.of(TrailStore.class.getDeclaredClasses()));
        classes.add(TrailStore.class);
        if (classes.size() > 12) {
            wrong("more than 12 classes");
        }
        for (Class<?> c : classes) {
            int fields = 0;
            for (Field f : c.getDeclaredFields()) {
                if (!Modifier.isStatic(f.getModifiers())) {
                    fields++;
                } else if (!Modifier.isFinal(f.getModifiers()) || f.getType() != int.class) {
                    wrong(f + " is no constant");
                }
            }
            if (fields > 20) {
                wrong(c + " has " + fields + " fields");
            }
            List<Executable> all = new ArrayList<>(List.of(c.getDeclaredMethods()));
            all.addAll(List.of(c.getDeclaredConstructors()));
            for (Executable e : all) {
                if (e.getParameterCount() > 7) {
                    wrong(e + " has too many parameters");
                }
            }
        }
    }

    /** The classes inside may be asked by the same rule, so that none of their methods bears such a name either. */
    private static void names() {
        Set<String> face = new TreeSet<>();
        for (Method m : TrailStore.class.getMethods()) {
            face.add(m.getName());
        }
        List<Class<?>> classes = new ArrayList<>(List.of(TrailStore.class.getDeclaredClasses()));
        classes.add(TrailStore.class);
        for (Class<?> c : classes) {
            for (Method m : c.getDeclaredMethods()) {
                boolean ofFace = c == TrailStore.class && Modifier.isPublic(m.getModifiers());
                if (!ofFace && face.contains(m.getName())) {
                    wrong(m + " bears the name of a public one");
                }
            }
        }
    }

    public static void main(String[] args) throws Exception {
        List<String> lines = Files.readAllLines(Path.of(args[0], "src", "main", "java", "TrailStore.java"));
        words(lines);
        lengths(lines);
        measures();
        names();
        System.out.println(wrong == 0 ? "no word and no measure is outside the rules" : wrong + " places are outside the rules");
        if (wrong != 0) {
            System.exit(1);
        }
    }
}
