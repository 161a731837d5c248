import java.util.ArrayList;
import java.util.List;

/** How the class is used: constraints told as a text, a level that is opened and closed, a run, a search. */
public final class Use {
    /** Four signs a call, the first one in the highest byte; what is too many of the last four is cut. */
    private static void write(TrailStore s, String text) {
        s.end(0);
        for (int i = 0; i < text.length(); i += 4) {
            int v = 0;
            for (int j = i; j < i + 4; j++) {
                v = v << 8 | (j < text.length() ? text.charAt(j) : 0);
            }
            s.sign(v);
        }
        s.end(text.length());
    }

    private static List<Long> row(TrailStore s) {
        List<Long> numbers = new ArrayList<>();
        for (int i = 0; i < s.count(7); i++) {
            numbers.add(s.row(i));
        }
        return numbers;
    }

    private static void say(String call, int answer) {
        System.out.println(call + " = " + answer);
    }

    private static void say(String call, int answer, TrailStore s) {
        System.out.println(call + " = " + answer + ", the ROW " + row(s));
    }

    public static void main(String[] args) {
        TrailStore s = new TrailStore();
        write(s, "v<w,!wxy");
        say("posts()", s.posts());
        say("many()", s.many(), s);
        say("opens()", s.opens());
        say("fixes(1, 1)", s.fixes(1, 1));
        say("spreads()", s.spreads());
        say("trail(1)", s.trail(1), s);
        say("closes()", s.closes(), s);
        write(s, "{w=0p|w=3p}A=07");
        say("run()", s.run(), s);
        say("values(0)", s.values(0));
        say("search(1)", s.search(1), s);
        say("fixes(1, 0)", s.fixes(1, 0));
    }
}
