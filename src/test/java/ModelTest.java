import java.lang.reflect.InvocationTargetException;
import java.lang.reflect.Method;
import java.util.ArrayList;
import java.util.List;
import java.util.Map;
import java.util.NoSuchElementException;
import java.util.Random;
import java.util.TreeMap;

/** Puts TrailStore and Model side by side through runs of drawn calls; a run has fewer than 512 calls. */
public final class ModelTest {
    private static final int CALLS = 170;

    private final TrailStore store = new TrailStore();
    private final Model model = new Model();
    private final Random random;
    private final List<String> log = new ArrayList<>();
    private final Map<String, Integer> seen;
    private final boolean climbs;
    private static final Map<String, Method> STORE = methods(TrailStore.class);
    private static final Map<String, Method> MODEL = methods(Model.class);

    private ModelTest(long seed, Map<String, Integer> seen) {
        this.random = new Random(seed);
        this.seen = seen;
        this.climbs = seed % 2 == 0;
    }

    private static Map<String, Method> methods(Class<?> of) {
        Map<String, Method> out = new TreeMap<>();
        for (Method m : of.getMethods()) {
            if (m.getDeclaringClass() == of) {
                out.put(m.getName(), m);
            }
        }
        return out;
    }

    private static Object answer(Method m, Object of, Object[] args) throws Exception {
        try {
            return m.invoke(of, args);
        } catch (InvocationTargetException e) {
            if (e.getCause() instanceof NoSuchElementException) {
                return "throws NoSuchElementException";
            }
            return "throws " + e.getCause();
        }
    }

    /** The answer, when both give the same. */
    private Object call(String name, int... args) throws Exception {
        Object[] boxed = new Object[args.length];
        StringBuilder line = new StringBuilder(name).append('(');
        for (int i = 0; i < args.length; i++) {
            boxed[i] = args[i];
            line.append(i == 0 ? "" : ", ").append(args[i]);
        }
        Object got = answer(STORE.get(name), store, boxed);
        Object due = answer(MODEL.get(name), model, boxed);
        log.add(line.append(") = ").append(got).toString());
        if (!got.equals(due)) {
            throw new IllegalStateException("due is " + due);
        }
        return got;
    }

    private void callSeen(String name, int... args) throws Exception {
        Object got = call(name, args);
        String kind = got instanceof Integer n && n >= 0 && !name.equals("search") ? ">=0" : got.toString();
        if (name.equals("run") || name.equals("posts")) {
            kind = got instanceof Integer n && n >= 0 ? ">=0" : (Integer) got <= -100 ? "refused" : "fault";
        }
        seen.merge(name + " " + kind, 1, Integer::sum);
        compareRows();
    }

    private void compareRows() throws Exception {
        int n = (Integer) call("count", 7);
        for (int i = 0; i <= n; i++) {
            long due = i < n ? model.row(i) : 0;
            try {
                if (store.row(i) != due || i == n) {
                    throw new IllegalStateException("row(" + i + ") is " + store.row(i) + ", due is " + due);
                }
            } catch (NoSuchElementException e) {
                if (i < n) {
                    throw new IllegalStateException("row(" + i + ") throws");
                }
            }
        }
    }

    private void compareAll() throws Exception {
        for (int i = -1; i <= 6; i++) {
            call("cell", i);
            call("values", i);
        }
        for (int i = -1; i <= 8; i++) {
            for (int what = -1; what <= 4; what++) {
                call("pair", i, what);
                call("constraint", i, what);
            }
        }
        for (int what = -1; what <= 10; what++) {
            call("count", what);
        }
    }

    private int pick(int... from) {
        return from[random.nextInt(from.length)];
    }

    /** Mostly a number below n, now and then one just outside. */
    private int near(int n) {
        return random.nextInt(12) == 0 ? pick(-1, n, n + 5, Integer.MIN_VALUE, Integer.MAX_VALUE) : random.nextInt(n);
    }

    private int number() {
        return random.nextInt(10) == 0
                ? pick(-999, 999, -1000, 1000, Integer.MAX_VALUE, Integer.MIN_VALUE, 0)
                : random.nextInt(41) - 20;
    }

    private int thing() {
        return random.nextInt(10) == 0 ? random.nextInt(40) - 4 : pick(0, 1, 2, 3, 4, 5, 10, 11, 12, 13, 14, 20, 25, 29, 30);
    }

    private void write(String text) throws Exception {
        call("end", 0);
        for (int i = 0; i < text.length(); i += 4) {
            int v = 0;
            for (int j = i; j < i + 4; j++) {
                v = v << 8 | (j < text.length() ? text.charAt(j) : 0);
            }
            call("sign", v);
        }
        call("end", Math.min(text.length(), 80));
    }

    private char one(String of) {
        return of.charAt(random.nextInt(of.length()));
    }

    private String two() {
        return random.nextInt(8) == 0 ? "99" : "" + one("0001234") + one("0123456789");
    }

    private String act() {
        switch (random.nextInt(9)) {
            case 0:
            case 1: return "" + one("ABCDEF") + one("=+-") + two();
            case 2:
            case 3: return "" + one("vwxyz") + one("-=<>") + one("012345");
            case 4: return "k" + one("0123456789") + "=" + two();
            case 5: return "k" + one("0123456789") + "-";
            case 6: return "p";
            case 7: return "?" + one("ABC") + one("<=>") + two();
            default: return random.nextBoolean() ? "?" + one("vwxyz") + one("012345") : "?k" + one("0123456789");
        }
    }

    private String drawnRun(int nested) {
        StringBuilder out = new StringBuilder();
        int parts = random.nextInt(4);
        for (int i = 0; i < parts; i++) {
            if (nested < 4 && random.nextInt(5) < 2) {
                int kind = random.nextInt(3);
                out.append("([{".charAt(kind)).append(drawnRun(nested + 1));
                while (kind == 2 && random.nextInt(2) == 0) {
                    out.append('|').append(drawnRun(nested + 1));
                }
                out.append(")]}".charAt(kind));
            } else {
                out.append(act());
            }
        }
        return out.toString();
    }

    private String drawnPosts() {
        StringBuilder out = new StringBuilder();
        int n = random.nextInt(10) == 0 ? random.nextInt(10) : random.nextInt(3);
        for (int i = 0; i < n; i++) {
            out.append(i == 0 ? "" : ",");
            if (random.nextInt(4) == 0) {
                String free = "vwxyz";
                out.append('!');
                for (int j = 2 + random.nextInt(4); j > 0; j--) {
                    char c = one(free);
                    out.append(c);
                    free = free.replace("" + c, "");
                }
            } else {
                char x = one("vwxyz");
                out.append(x).append(one("<=##")).append(one("vwxyz".replace("" + x, "")));
                if (random.nextInt(3) > 0) {
                    out.append(one("+-")).append(one("0011223459"));
                }
            }
        }
        return out.toString();
    }

    /** A text with a sign too many, too few, or another one. */
    private String spoilt(String text) {
        if (random.nextInt(4) > 0) {
            return text;
        }
        int p = random.nextInt(text.length() + 1);
        char sign = random.nextInt(8) == 0 ? (char) pick(0, 128, 255, 32) : one("AFGuvz{k0569=+-<>#!,?p()[]{}|");
        switch (random.nextInt(3)) {
            case 0: return text.substring(0, p);
            case 1: return text.substring(0, p) + sign + text.substring(p);
            default: return p == text.length() ? text + sign : text.substring(0, p) + sign + text.substring(p + 1);
        }
    }

    private void step() throws Exception {
        int depth = (Integer) call("count", 0);
        int drawn = random.nextInt(48);
        // else few runs would ever have many levels or many pairs
        if (climbs && (drawn == 9 || drawn == 17 || drawn == 18 || drawn == 45) && random.nextInt(6) > 0) {
            drawn = pick(7, 15, 24, 25, 28);
        }
        switch (drawn) {
            case 0: callSeen("sheet", near(4), random.nextInt(9) - 1, pick(0, 5, 127, 40000, 32767, number()), number()); break;
            case 1: callSeen("sets", near(6), number()); break;
            case 2: callSeen("adds", near(6), number()); break;
            case 3: callSeen("removes", near(5), near(6)); break;
            case 4: callSeen("fixes", near(5), near(6)); break;
            case 5: callSeen("limits", near(5), near(6), near(6)); break;
            case 6: callSeen("renews", near(5)); break;
            case 7:
            case 8: callSeen("puts", near(10), number()); break;
            case 9: callSeen("drops", near(10)); break;
            case 10:
            case 11: write(spoilt(drawnPosts())); callSeen("posts"); break;
            case 12: callSeen("lifts", near(8)); break;
            case 13: callSeen("spreads"); break;
            case 14:
            case 15:
            case 16: callSeen("opens"); break;
            case 17: callSeen("closes"); break;
            case 18: callSeen("back", random.nextInt(depth + 3) - 1); break;
            case 19: callSeen("commits"); break;
            case 20:
            case 21:
            case 22:
            case 23: write(spoilt(drawnRun(0))); callSeen("run"); break;
            case 24: callSeen("was", random.nextInt(depth + 3) - 1, thing()); break;
            case 25: callSeen("trail", random.nextInt(depth + 3) - 1); break;
            case 26: callSeen("since", thing()); break;
            case 27: callSeen("would", random.nextInt(depth + 3) - 1); break;
            case 28: callSeen("between", random.nextInt(depth + 3) - 1, random.nextInt(depth + 3) - 1); break;
            case 29: callSeen("many"); break;
            case 30: callSeen("nth", pick(0, -1, 1, 2, 5, 40, 300, 7776, Integer.MAX_VALUE, Integer.MIN_VALUE)); break;
            case 31: callSeen("always"); break;
            case 32: callSeen("search", near(3)); break;
            case 33: callSeen("best"); break;
            case 34: callSeen("shadows", near(32)); break;
            case 35: callSeen("probes"); break;
            case 36: callSeen("leaves", near(5), near(6)); break;
            case 37: callSeen("culprits"); break;
            case 38: callSeen("why", near(5), near(6)); break;
            case 39: callSeen("mends"); break;
            case 40: callSeen("heard", near(5), near(6), near(2)); break;
            case 41: callSeen(random.nextInt(4) == 0 ? "forget" : "fits"); break;
            case 42: callSeen("asks"); break;
            case 43: callSeen("years", random.nextInt(), random.nextInt(20) == 0 ? pick(0, 41) : 1 + random.nextInt(40)); break;
            case 44: callSeen("keep", near(2)); break;
            case 45: callSeen(random.nextInt(3) == 0 ? "again" : "differs", near(2)); break;
            case 46: callSeen("sign", random.nextInt()); callSeen("sign", random.nextInt()); break;
            default: callSeen("end", random.nextInt(20) - 2); break;
        }
    }

    /** No spread sees that the last two can't be, so that a search by the first way needs too many nodes. */
    private void startHopeless() throws Exception {
        call("limits", 3, 0, 1);
        call("limits", 4, 0, 1);
        call("limits", 2, 0, 2 + random.nextInt(4));
        call("limits", 1, 0, 2 + random.nextInt(4));
        write("y#z,y#z+1,y#z-1");
        callSeen("posts");
        callSeen("search", 0);
    }

    private void go() throws Exception {
        int start = random.nextInt(12);
        if (start < 4) {
            for (int x = 0; x < 5; x++) {
                call("limits", x, random.nextInt(2), 1 + random.nextInt(5));
            }
        } else if (start < 6) {
            startHopeless();
        } else if (start == 6) {
            write("A=01".repeat(20).substring(0, 76 + random.nextInt(5)));
            callSeen("sign", 5);
            callSeen("sign", 5);
        }
        for (int i = 0; i < CALLS; i++) {
            step();
            if (i % 10 == 0) {
                compareAll();
            }
        }
        compareAll();
    }

    public static void main(String[] args) throws Exception {
        int runs = args.length > 1 ? Integer.parseInt(args[1]) : 400;
        long from = args.length > 2 ? Long.parseLong(args[2]) : 1;
        Map<String, Integer> seen = new TreeMap<>();
        int wrong = 0;
        for (long seed = from; seed < from + runs && wrong < 3; seed++) {
            ModelTest test = new ModelTest(seed, seen);
            try {
                test.go();
            } catch (IllegalStateException e) {
                wrong++;
                System.out.println("run of seed " + seed + ":");
                for (String line : test.log) {
                    System.out.println("  " + line);
                }
                System.out.println("  " + e.getMessage());
            }
        }
        if (args.length > 1) {
            System.out.println(seen);
        }
        System.out.println(wrong == 0 ? runs + " drawn runs are as the model's" : wrong + " drawn runs are not");
        if (wrong != 0) {
            System.exit(1);
        }
    }
}
