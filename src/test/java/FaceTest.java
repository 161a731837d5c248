import java.lang.reflect.Constructor;
import java.lang.reflect.Field;
import java.lang.reflect.Method;
import java.lang.reflect.Modifier;
import java.lang.reflect.Parameter;
import java.nio.file.Files;
import java.nio.file.Path;
import java.util.ArrayList;
import java.util.List;
import java.util.TreeSet;

/** Promise 1 to 50 stand on this face: the one that the document writes out, and nothing beside it. */
public final class FaceTest {
    private static int wrong = 0;

    private static void wrong(String what) {
        wrong++;
        System.out.println(what);
    }

    private static TreeSet<String> facesOfDocument(Path document) throws Exception {
        TreeSet<String> out = new TreeSet<>();
        boolean inFace = false;
        for (String line : Files.readAllLines(document)) {
            if (line.startsWith("## ")) {
                inFace = line.equals("## The public face");
            }
            if (inFace && line.startsWith("    public ")) {
                String said = line.trim().replace(";", "").replaceAll(" throws .*", "").replaceAll(" = .*", "");
                out.add(said.replaceAll("\\b(int|boolean|long) \\w+([,)])", "$1$2"));
            }
        }
        return out;
    }

    private static String parameters(Parameter[] of) {
        List<String> out = new ArrayList<>();
        for (Parameter p : of) {
            out.add(p.getType().getSimpleName());
        }
        return "(" + String.join(", ", out) + ")";
    }

    private static TreeSet<String> facesOfClass() {
        TreeSet<String> out = new TreeSet<>();
        for (Method m : TrailStore.class.getDeclaredMethods()) {
            if (!Modifier.isPrivate(m.getModifiers())) {
                out.add(Modifier.toString(m.getModifiers()) + " " + m.getReturnType().getSimpleName() + " " + m.getName()
                        + parameters(m.getParameters()));
            }
        }
        for (Field f : TrailStore.class.getDeclaredFields()) {
            if (!Modifier.isPrivate(f.getModifiers())) {
                out.add(Modifier.toString(f.getModifiers()) + " " + f.getType().getSimpleName() + " " + f.getName());
            }
        }
        for (Constructor<?> c : TrailStore.class.getDeclaredConstructors()) {
            if (!Modifier.isPrivate(c.getModifiers())) {
                out.add(Modifier.toString(c.getModifiers()) + " TrailStore" + parameters(c.getParameters()));
            }
        }
        return out;
    }

    private static void privateNames() {
        TreeSet<String> faces = new TreeSet<>();
        for (Method m : TrailStore.class.getMethods()) {
            faces.add(m.getName());
        }
        List<Class<?>> classes = new ArrayList<>(List.of(TrailStore.class.getDeclaredClasses()));
        for (Class<?> c : classes) {
            if (!Modifier.isStatic(c.getModifiers()) || Modifier.isPublic(c.getModifiers()) || Modifier.isProtected(c.getModifiers())) {
                wrong(c + " is not static, or can be seen");
            }
        }
        classes.add(TrailStore.class);
        for (Class<?> c : classes) {
            for (Method m : c.getDeclaredMethods()) {
                if (faces.contains(m.getName()) && !Modifier.isPublic(m.getModifiers())) {
                    wrong(m + " bears the name of a public one");
                }
            }
        }
    }

    public static void main(String[] args) throws Exception {
        TreeSet<String> due = facesOfDocument(Path.of(args[0], "..", "shared", "DOC.md"));
        TreeSet<String> got = facesOfClass();
        if (due.size() != 51) {
            wrong("the document's face was not read: " + due);
        }
        for (String face : due) {
            if (!got.contains(face)) {
                wrong("missing: " + face);
            }
        }
        for (String face : got) {
            if (!due.contains(face)) {
                wrong("not of the document: " + face);
            }
        }
        if (TrailStore.NONE != -1 || Modifier.toString(TrailStore.class.getModifiers()).indexOf("final") < 0) {
            wrong("NONE is -1, and the class is final");
        }
        privateNames();
        System.out.println(wrong == 0 ? "the face is the document's" : "the face is not the document's");
        if (wrong != 0) {
            System.exit(1);
        }
    }
}
