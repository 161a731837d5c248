import java.nio.file.Files;
import java.nio.file.Path;
import java.util.ArrayList;
import java.util.List;
import java.util.Map;
import java.util.NoSuchElementException;
import java.util.TreeMap;
import java.util.function.Supplier;

/**
 * What the edge tests share. A test names a promise and quotes the words of it that it looks at; the words are looked up
 * in the document, and a promise of which some words are never quoted fails, so that no sentence is left without a test.
 */
final class Edges {
    /** The words that all promises use stand ahead of them, under this number. */
    static final int TERMS = 0;
    static final int MIN = Integer.MIN_VALUE;
    static final int MAX = Integer.MAX_VALUE;

    interface Call {
        long on(TrailStore s);
    }

    private final Map<Integer, String> texts = new TreeMap<>();
    private final Map<Integer, boolean[]> quoted = new TreeMap<>();
    private int promise = TERMS;
    private String words = "";
    private int asked = 0;
    private int wrong = 0;

    Edges(String root) throws Exception {
        int at = -1;
        for (String line : Files.readAllLines(Path.of(root, "..", "shared", "DOC.md"))) {
            if (line.startsWith("## ")) {
                at = line.equals("## Terms") ? TERMS
                        : line.startsWith("## Promise ") ? Integer.parseInt(line.replaceAll("## Promise (\\d+):.*", "$1")) : -1;
            } else if (at >= TERMS && !line.startsWith("Ahead of the calls") && !line.startsWith("```")) {
                texts.merge(at, line.trim(), (a, b) -> (a + " " + b).trim());
            }
        }
        for (int n : texts.keySet()) {
            // the face of the call is FaceTest's
            texts.put(n, texts.get(n).replaceFirst("^`[^`]*`: ", ""));
            quoted.put(n, new boolean[texts.get(n).length()]);
        }
    }

    private void wrong(String what) {
        wrong++;
        System.out.println((promise == TERMS ? "terms" : "promise " + promise) + ", \"" + words + "\": " + what);
    }

    void promise(int n) {
        promise = n;
        words = "";
    }

    /** What comes behind this looks at these words of the promise. */
    void says(String quote) {
        words = quote;
        int at = texts.getOrDefault(promise, "").indexOf(quote);
        if (at < 0) {
            wrong("the document has no such words there");
        }
        for (int i = 0; at >= 0 && i < quote.length(); i++) {
            quoted.get(promise)[at + i] = true;
        }
    }

    void due(String what, long want, long got) {
        asked++;
        if (want != got) {
            wrong(what + " answered " + got + ", due is " + want);
        }
    }

    void due(String what, boolean want, boolean got) {
        due(what, want ? 1 : 0, got ? 1 : 0);
    }

    /** All numbers of the ROW, and none behind them. */
    void dueRow(String what, TrailStore s, long... want) {
        List<Long> due = new ArrayList<>();
        for (long number : want) {
            due.add(number);
        }
        asked++;
        if (!due.equals(row(s))) {
            wrong(what + " has the ROW " + row(s) + ", due is " + due);
        }
    }

    void dueThrows(String what, TrailStore s, Call call) {
        asked++;
        try {
            wrong(what + " answered " + call.on(s) + ", due is NoSuchElementException");
        } catch (NoSuchElementException e) {
            return;
        }
    }

    /** Answers so, and nothing, the ROW and THE TEXT neither, is otherwise than without the call. */
    void refused(Supplier<TrailStore> made, String what, long want, Call call) {
        TrailStore s = made.get();
        due(what, want, call.on(s));
        same(what, s, made.get());
    }

    /** Throws, and nothing is otherwise than without the call. */
    void throwsIn(Supplier<TrailStore> made, String what, Call call) {
        TrailStore s = made.get();
        dueThrows(what, s, call);
        same(what, s, made.get());
    }

    /** Answers so, and nothing but the ROW is otherwise than without the call. */
    void question(Supplier<TrailStore> made, String what, long want, Call call) {
        TrailStore s = made.get();
        due(what, want, call.on(s));
        same(what, withoutRow(s), withoutRow(made.get()));
    }

    void same(String what, TrailStore got, TrailStore want) {
        asked++;
        List<String> gotAll = picture(got);
        List<String> wantAll = picture(want);
        if (!gotAll.equals(wantAll)) {
            wrong(what + " leaves " + gotAll + ", due is " + wantAll);
        }
    }

    /** would(DEPTH) is a question that tells no number. */
    private static TrailStore withoutRow(TrailStore s) {
        s.would(s.count(0));
        return s;
    }

    static List<Long> row(TrailStore s) {
        List<Long> out = new ArrayList<>();
        for (int i = 0; i < s.count(7); i++) {
            out.add(s.row(i));
        }
        return out;
    }

    /** All that calls can tell of an object, which is of no use any more then. */
    private static List<String> picture(TrailStore s) {
        List<String> out = new ArrayList<>();
        out.add("ROW " + row(s));
        for (int what = 0; what <= 9; what++) {
            out.add("count(" + what + ") " + s.count(what));
        }
        out.add("things " + things(s));
        for (int d = 1; d <= s.count(0); d++) {
            out.add("trail(" + d + ") " + s.trail(d) + " " + row(s));
        }
        out.add("differs(0) " + s.differs(0) + " " + row(s));
        out.add("differs(1) " + s.differs(1) + " " + row(s));
        out.add("fits " + s.fits() + " " + row(s));
        out.add("run " + s.run());
        for (int d = s.count(0); d >= 1; d--) {
            s.back(d - 1);
            out.add("LEVEL " + d + " " + things(s));
        }
        return out;
    }

    static List<Integer> things(TrailStore s) {
        List<Integer> out = new ArrayList<>();
        for (int i = 0; i < 6; i++) {
            out.add(s.cell(i));
        }
        for (int x = 0; x < 5; x++) {
            out.add(s.values(x));
        }
        for (int i = 0; i < s.count(2); i++) {
            out.add(s.pair(i, 0));
            out.add(s.pair(i, 1));
        }
        for (int i = 0; i < s.count(3); i++) {
            for (int what = 0; what < 4; what++) {
                out.add(s.constraint(i, what));
            }
        }
        return out;
    }

    static TrailStore write(TrailStore s, String text) {
        s.end(0);
        for (int i = 0; i < text.length(); i += 4) {
            int v = 0;
            for (int j = i; j < i + 4; j++) {
                v = v << 8 | (j < text.length() ? text.charAt(j) : 0);
            }
            s.sign(v);
        }
        s.end(text.length());
        return s;
    }

    static int run(TrailStore s, String text) {
        return write(s, text).run();
    }

    static int posts(TrailStore s, String text) {
        return write(s, text).posts();
    }

    static TrailStore with(String constraints) {
        TrailStore s = new TrailStore();
        posts(s, constraints);
        return s;
    }

    static TrailStore limited(TrailStore s, int low, int high) {
        for (int x = 0; x < 5; x++) {
            s.limits(x, low, high);
        }
        return s;
    }

    static TrailStore opened(TrailStore s, int levels) {
        for (int d = 0; d < levels; d++) {
            s.opens();
        }
        return s;
    }

    /** It FAILS to spread, by 0 and 1 together, so that there is no solution; a ROW of six numbers. */
    static TrailStore hopeless() {
        TrailStore s = new TrailStore();
        s.best();
        posts(s, "v<w,w<v,x#y");
        s.opens();
        return s;
    }

    /** There is no solution, though each constraint alone can hold, and no spread sees it. */
    static TrailStore hiddenHopeless() {
        TrailStore s = limited(with("v#w,w#x,v#x"), 0, 1);
        s.since(0);
        return s;
    }

    /** Something of each sort, two levels with trails, a text and a ROW. */
    static TrailStore rich() {
        TrailStore s = with("v<w,!wxy,y#z+2");
        s.sets(0, -7);
        s.puts(8, 5);
        s.puts(3, -6);
        s.removes(4, 4);
        s.keep(0);
        s.heard(2, 1, 0);
        s.opens();
        s.sets(5, 999);
        s.drops(8);
        s.fixes(0, 2);
        s.opens();
        s.puts(8, 5);
        s.sets(0, -8);
        s.lifts(1);
        write(s, "A+01p");
        s.nth(3);
        return s;
    }

    /** As much of everything as there may be: levels, pairs, constraints, what was heard, signs. */
    static TrailStore full() {
        TrailStore s = with("v<w,w<x,x#y,y#z,!vwx,v#z,w#z,x#z");
        for (int key = 0; key < 8; key++) {
            s.puts(key, key - 999);
        }
        for (int n = 0; n < 10; n++) {
            s.heard(n % 5, n % 6, 0);
        }
        s.sheet(2, 6, 999, 0);
        s.fixes(4, 3);
        s.keep(1);
        for (int d = 0; d < 9; d++) {
            s.opens();
            s.adds(d % 6, -1);
        }
        write(s, "A=01".repeat(20));
        s.trail(9);
        return s;
    }

    /** Says how it went; a word of these promises that no test quoted is a fault, too. */
    void end(int from, int to) {
        for (int n = from; n <= to; n++) {
            promise(n);
            String text = texts.getOrDefault(n, "");
            if (text.isEmpty()) {
                wrong("the document has no such promise");
            }
            StringBuilder left = new StringBuilder();
            for (int i = 0; i < text.length(); i++) {
                if (!quoted.get(n)[i]) {
                    left.append(text.charAt(i));
                }
            }
            if (left.toString().matches("(?s).*[A-Za-z0-9].*")) {
                wrong("no test quotes: " + left);
            }
        }
        System.out.println(wrong == 0 ? asked + " answers are as due" : wrong + " answers are not as due");
        if (wrong != 0) {
            System.exit(1);
        }
    }
}
