import java.util.NoSuchElementException;

/** For each promise of the document, by its number: ordinary inputs, its edges, wrong inputs. */
public final class PromiseTest {
    private static int asked = 0;
    private static int wrong = 0;
    private static int promise = 0;

    private static void due(String what, long want, long got) {
        asked++;
        if (got != want) {
            wrong++;
            System.out.println("promise " + promise + ": " + what + " answered " + got + ", due is " + want);
        }
    }

    private static void due(String what, boolean want, boolean got) {
        due(what, want ? 1 : 0, got ? 1 : 0);
    }

    /** All numbers of the ROW, and that none stands behind them. */
    private static void dueRow(TrailStore s, String what, long... want) {
        due(what + ": count(7)", want.length, s.count(7));
        for (int i = 0; i < want.length && i < s.count(7); i++) {
            due(what + ": row(" + i + ")", want[i], s.row(i));
        }
    }

    private interface Call {
        long answer();
    }

    private static void dueThrows(String what, Call call) {
        asked++;
        try {
            long got = call.answer();
            wrong++;
            System.out.println("promise " + promise + ": " + what + " answered " + got + ", due is an exception");
        } catch (NoSuchElementException e) {
            return;
        }
    }

    private static int run(TrailStore s, String text) {
        return Edges.run(s, text);
    }

    private static int posts(TrailStore s, String text) {
        return Edges.posts(s, text);
    }

    private static TrailStore with(String constraints) {
        TrailStore s = new TrailStore();
        due("posts of " + constraints, constraints.isEmpty() ? 0 : constraints.split(",").length, posts(s, constraints));
        return s;
    }

    private static void promise1() {
        TrailStore s = new TrailStore();
        int[] first = {0, 30, 0, 0, 10000, 0, 0, 0, 0, 0};
        for (int what = 0; what < first.length; what++) {
            due("count(" + what + ")", first[what], s.count(what));
        }
        for (int i = 0; i < 6; i++) {
            due("cell", 0, s.cell(i));
        }
        for (int x = 0; x < 5; x++) {
            due("values", 63, s.values(x));
        }
        due("differs", -2, s.differs(0));
        due("closes", -2, s.closes());
        due("NONE", -1, TrailStore.NONE);
    }

    private static void promise2() {
        TrailStore s = new TrailStore();
        for (int n = 4; n <= 80; n += 4) {
            due("sign", n, s.sign(0));
        }
        due("sign behind 80", -1, s.sign(0));
        due("count(8)", 80, s.count(8));
        s.end(77);
        due("sign behind 77", -1, s.sign(0));
        due("count(8) behind it", 77, s.count(8));
        s.end(76);
        due("sign behind 76", 80, s.sign(0));
        s.end(0);
        s.sign('A' << 24 | '=' << 16 | '1' << 8 | '2');
        due("run, the highest byte first", 1, s.run());
        due("cell", 12, s.cell(0));
        s.sign(-1);
        due("run of signs 255", -1, s.run());
    }

    private static void promise3() {
        TrailStore s = new TrailStore();
        due("end(0) of none", true, s.end(0));
        due("end(1) of none", false, s.end(1));
        s.sign(0x413D3939);
        due("end(5)", false, s.end(5));
        due("end(-1)", false, s.end(-1));
        due("count(8)", 4, s.count(8));
        due("end(4)", true, s.end(4));
        due("count(8)", 4, s.count(8));
        due("end(3)", true, s.end(3));
        due("count(8)", 3, s.count(8));
        due("run", -4, s.run());
    }

    private static void promise4() {
        TrailStore s = new TrailStore();
        s.sets(5, -999);
        s.sets(0, 999);
        due("cell(5)", -999, s.cell(5));
        due("cell(0)", 999, s.cell(0));
        dueThrows("cell(-1)", () -> s.cell(-1));
        dueThrows("cell(6)", () -> s.cell(6));
        dueThrows("cell(MAX)", () -> s.cell(Integer.MAX_VALUE));
    }

    private static void promise5() {
        TrailStore s = new TrailStore();
        s.removes(4, 0);
        s.removes(4, 5);
        due("values(4)", 30, s.values(4));
        due("values(0)", 63, s.values(0));
        dueThrows("values(-1)", () -> s.values(-1));
        dueThrows("values(5)", () -> s.values(5));
    }

    private static void promise6() {
        TrailStore s = new TrailStore();
        s.puts(9, -3);
        s.puts(0, 7);
        due("pair(0, 0)", 9, s.pair(0, 0));
        due("pair(0, 1)", -3, s.pair(0, 1));
        due("pair(1, 0)", 0, s.pair(1, 0));
        due("pair(1, 1)", 7, s.pair(1, 1));
        dueThrows("pair(2, 0)", () -> s.pair(2, 0));
        dueThrows("pair(-1, 0)", () -> s.pair(-1, 0));
        dueThrows("pair(0, 2)", () -> s.pair(0, 2));
        dueThrows("pair(0, -1)", () -> s.pair(0, -1));
    }

    private static void promise7() {
        TrailStore s = with("z<v-9,!zx,w#y+3");
        int[][] want = {{0, 4, 0, -9}, {3, 20, 0, 0}, {2, 1, 3, 3}};
        for (int i = 0; i < 3; i++) {
            for (int what = 0; what < 4; what++) {
                due("constraint(" + i + ", " + what + ")", want[i][what], s.constraint(i, what));
            }
        }
        dueThrows("constraint(3, 0)", () -> s.constraint(3, 0));
        dueThrows("constraint(-1, 0)", () -> s.constraint(-1, 0));
        dueThrows("constraint(0, 4)", () -> s.constraint(0, 4));
        dueThrows("constraint(0, -1)", () -> s.constraint(0, -1));
    }

    private static void promise8() {
        TrailStore s = new TrailStore();
        due("bytes", 10000 + 127 - 128 - 127, s.sheet(0, 3, 127, 1));
        due("shorts", 10000 + 999 - 999, s.sheet(1, 2, 32767, 1));
        due("cell(2)", 0, s.cell(2));
        due("ints", 10000 + 999 * 6, s.sheet(2, 6, 40000, 1));
        due("ints that wrap", 10000 + 999 - 999, s.sheet(2, 2, Integer.MAX_VALUE, 1));
        due("no entries", 10000, s.sheet(2, 0, 5, 5));
        s.sets(1, 4);
        s.opens();
        s.sets(3, 4);
        s.sets(3, 0);
        due("below 0", -2, s.sheet(0, -1, 1, 1));
        due("cell(1)", 4, s.cell(1));
        due("another kind", -1, s.sheet(4, -1, 1, 1));
        due("another kind", -1, s.sheet(-1, 1, 1, 1));
        due("above 6", -1, s.sheet(3, 7, 1, 1));
        due("step below 0", 10000 + 2 + 1 + 0 - 1 - 2 - 3, s.sheet(1, 6, 2, -1));
        due("trail", 5, s.trail(1));
        dueRow(s, "by number, but for the one ahead", 3, 0, 1, 4, 5);
        due("missing", -3, s.sheet(3, -5, 1, 1));
        due("count(4)", 10000, s.count(4));
        dueRow(s, "an answer below 0", 3, 0, 1, 4, 5);
    }

    private static void promise9() {
        TrailStore s = new TrailStore();
        due("sets", 1000, s.sets(2, 999));
        due("sets", 1999, s.sets(2, -999));
        due("sets", 1, s.sets(2, 5));
        due("sets 1000", -1, s.sets(2, 1000));
        due("sets -1000", -1, s.sets(2, -1000));
        due("sets of 6", -1, s.sets(6, 0));
        due("sets of -1", -1, s.sets(-1, 0));
        due("cell", 5, s.cell(2));
    }

    private static void promise10() {
        TrailStore s = new TrailStore();
        due("adds", 1999, s.adds(0, 999));
        due("adds 1", -2, s.adds(0, 1));
        due("adds MAX", -2, s.adds(0, Integer.MAX_VALUE));
        due("adds -1998", 1, s.adds(0, -1998));
        due("adds MIN", -2, s.adds(0, Integer.MIN_VALUE));
        due("adds of 6", -1, s.adds(6, Integer.MAX_VALUE));
        due("adds of -1", -1, s.adds(-1, 0));
        due("cell", -999, s.cell(0));
    }

    private static void promise11() {
        TrailStore s = new TrailStore();
        for (int v = 0; v < 5; v++) {
            due("removes", 5 - v, s.removes(3, v));
        }
        due("removes again", -2, s.removes(3, 2));
        due("removes the only one", -3, s.removes(3, 5));
        due("removes 6", -1, s.removes(3, 6));
        due("removes -1", -1, s.removes(3, -1));
        due("removes of 5", -1, s.removes(5, 0));
        due("values", 32, s.values(3));
    }

    private static void promise12() {
        TrailStore s = new TrailStore();
        s.removes(1, 4);
        due("fixes what is gone", -2, s.fixes(1, 4));
        due("fixes", 4, s.fixes(1, 5));
        due("fixes again", 0, s.fixes(1, 5));
        due("fixes another", -2, s.fixes(1, 0));
        due("fixes 6", -1, s.fixes(1, 6));
        due("fixes of -1", -1, s.fixes(-1, 0));
        due("values", 32, s.values(1));
    }

    private static void promise13() {
        TrailStore s = new TrailStore();
        due("limits", 3, s.limits(0, 1, 3));
        due("values", 14, s.values(0));
        due("limits again", 0, s.limits(0, 0, 5));
        due("limits to none", -2, s.limits(0, 4, 5));
        due("limits upside down", -2, s.limits(0, 3, 1));
        due("limits low -1", -1, s.limits(0, -1, 3));
        due("limits high 6", -1, s.limits(0, 0, 6));
        due("limits low 6", -1, s.limits(0, 6, 5));
        due("limits of 5", -1, s.limits(5, 4, 5));
        due("values", 14, s.values(0));
    }

    private static void promise14() {
        TrailStore s = new TrailStore();
        s.fixes(2, 2);
        due("renews", 5, s.renews(2));
        due("renews again", 0, s.renews(2));
        s.opens();
        s.fixes(2, 2);
        due("renews in a level", -2, s.renews(2));
        due("renews of 5 in a level", -1, s.renews(5));
        due("renews of -1", -1, s.renews(-1));
        due("values", 4, s.values(2));
    }

    private static void promise15() {
        TrailStore s = new TrailStore();
        for (int key = 9; key >= 2; key--) {
            due("puts", 9 - key, s.puts(key, key));
        }
        due("puts a ninth", -2, s.puts(0, 0));
        due("puts one that is there", 3, s.puts(6, -999));
        due("pair", -999, s.pair(3, 1));
        due("puts 1000 as a ninth", -1, s.puts(0, 1000));
        due("puts of 10", -1, s.puts(10, 0));
        due("puts of -1", -1, s.puts(-1, 0));
        s.drops(9);
        due("puts behind all", 7, s.puts(9, 1));
        s.opens();
        due("the same number", 7, s.puts(9, 1));
        due("changes nothing", 0, s.trail(1));
        due("another number", 7, s.puts(9, 2));
        due("changes the key", 1, s.trail(1));
        dueRow(s, "changes the key", 29);
    }

    private static void promise16() {
        TrailStore s = new TrailStore();
        s.puts(5, 1);
        s.puts(6, 2);
        s.puts(7, 3);
        due("drops", 1, s.drops(6));
        due("drops again", -2, s.drops(6));
        due("pair", 7, s.pair(1, 0));
        due("pair", 3, s.pair(1, 1));
        due("drops", 0, s.drops(5));
        due("drops of 10", -1, s.drops(10));
        due("drops of -1", -1, s.drops(-1));
        due("count", 1, s.count(2));
    }

    private static void promise17() {
        TrailStore s = new TrailStore();
        s.opens();
        due("an empty text", 0, posts(s, ""));
        due("trail", 0, s.trail(1));
        due("five different ones", 1, posts(s, "!zyxwv"));
        due("the text is emptied", 0, s.count(8));
        due("set", 31, s.constraint(0, 1));
        due("with + and -", 3, posts(s, "v<w+0,w=x-9,x#v"));
        String[] texts = {"u", "v", "v!", "v>w", "v<", "v<v", "v<u", "v<w+", "v<w+x", "v<w+12", "v<w ", "v<w,", "v<w,,",
            ",v<w", "!", "!v", "!v,", "!vv", "!vwv", "!vwxyzv", "!vwu", "v<w,!v", "V<w", "v<wx<y"};
        int[] faults = {0, 1, 1, 1, 2, 2, 2, 4, 4, 5, 3, 4, 4, 0, 1, 2, 2, 2, 3, 6, 3, 6, 0, 3};
        for (int i = 0; i < texts.length; i++) {
            due("posts of " + texts[i], -1 - faults[i], posts(s, texts[i]));
            due("the text is emptied", 0, s.count(8));
        }
        due("too many", -100, posts(s, "v<w,v<w,v<w,v<w,v<w"));
        due("as many as a text can tell", -100, posts(s, "v<w,".repeat(20).substring(0, 79)));
        due("as many, with a fault at its end", -1 - 79, posts(s, "v<w,".repeat(20).substring(0, 79) + "v"));
        due("too many, with a fault", -1 - 20, posts(s, "v<w,v<w,v<w,v<w,v<w,"));
        due("count(3)", 4, s.count(3));
        due("just as many", 4, posts(s, "v<w,v<w,v<w,v<w"));
        due("none behind 8", 0, posts(s, ""));
        due("one behind 8", -100, posts(s, "!vw"));
        due("trail", 1, s.trail(1));
        dueRow(s, "trail", 30);
    }

    private static void promise18() {
        TrailStore s = with("v<w,w<x,!xyz");
        due("lifts(3)", -1, s.lifts(3));
        due("lifts(-1)", -1, s.lifts(-1));
        s.opens();
        due("lifts(0)", 2, s.lifts(0));
        due("constraint", 1, s.constraint(0, 1));
        due("constraint", 28, s.constraint(1, 1));
        due("trail", 1, s.trail(1));
        s.closes();
        due("count", 3, s.count(3));
        due("constraint", 0, s.constraint(0, 1));
        due("lifts(2)", 2, s.lifts(2));
        due("lifts(0)", 1, s.lifts(0));
        due("lifts(0)", 0, s.lifts(0));
        due("lifts(0) of none", -1, s.lifts(0));
    }

    private static void promise19() {
        TrailStore s = with("v<w,w<x,x<y,y<z");
        s.opens();
        due("spreads", 20, s.spreads());
        for (int x = 0; x < 5; x++) {
            due("values", 3L << x, s.values(x));
        }
        due("trail", 5, s.trail(1));
        dueRow(s, "trail", 10, 11, 12, 13, 14);
        due("spreads again", 0, s.spreads());
        s.fixes(4, 4);
        due("spreads", 4, s.spreads());
        posts(s, "z<v");
        due("it fails", -2, s.spreads());
        due("values", 16, s.values(4));

        TrailStore t = with("!vwx");
        t.limits(0, 1, 2);
        t.limits(1, 1, 2);
        due("two take two from the third", 2, t.spreads());
        due("values", 57, t.values(2));
        due("values of one that it has not", 63, t.values(3));
        t.limits(2, 0, 0);
        due("spreads", 0, t.spreads());

        TrailStore u = with("!vwx");
        u.limits(0, 0, 1);
        u.limits(1, 0, 1);
        u.limits(2, 0, 1);
        due("three can't have two", -2, u.spreads());

        TrailStore w = with("!vwxyz");
        Edges.limited(w, 0, 4);
        due("five of five", 0, w.spreads());
        w.removes(0, 0);
        w.removes(1, 0);
        w.removes(2, 0);
        w.removes(3, 0);
        due("none but one can have it", 4, w.spreads());
        due("values", 1, w.values(4));
        w.removes(0, 1);
        w.removes(1, 1);
        w.removes(2, 1);
        w.removes(3, 1);
        due("four can't have three", -2, w.spreads());

        TrailStore h = with("!vwx");
        h.limits(1, 0, 1);
        h.limits(2, 0, 1);
        due("two take two from the first", 2, h.spreads());
        due("values", 60, h.values(0));
        h.renews(0);
        h.limits(0, 0, 1);
        due("two leave none to the first", -2, h.spreads());

        TrailStore e = with("v=w+4,x#y-2");
        due("equal", 8, e.spreads());
        due("values", 48, e.values(0));
        due("values", 3, e.values(1));
        e.fixes(3, 4);
        due("unequal", 1, e.spreads());
        due("values", 59, e.values(2));

        TrailStore d = with("v<w+9,w<v-9");
        due("far apart", -2, d.spreads());
    }

    private static void promise20() {
        TrailStore s = new TrailStore();
        for (int d = 1; d <= 9; d++) {
            due("opens", d, s.opens());
        }
        due("opens a tenth", -2, s.opens());
        due("count(0)", 9, s.count(0));
    }

    private static void promise21() {
        TrailStore s = with("v<w");
        s.puts(1, 1);
        s.puts(2, 2);
        s.opens();
        s.drops(1);
        s.puts(1, 1);
        s.sets(0, 3);
        s.sets(1, 3);
        s.sets(1, 0);
        s.fixes(4, 4);
        s.lifts(0);
        posts(s, "v#w");
        due("closes", 0, s.closes());
        dueRow(s, "closes", 3);
        due("order of pairs", 1, s.pair(0, 0));
        due("cell", 0, s.cell(0));
        due("values", 63, s.values(4));
        due("constraint", 0, s.constraint(0, 0));
        due("closes of none", -2, s.closes());
        dueRow(s, "an answer below 0", 3);
        s.opens();
        s.opens();
        s.sets(0, 1);
        due("closes", 1, s.closes());
        due("closing another level changes no trail", 0, s.trail(1));
    }

    private static void promise22() {
        TrailStore s = new TrailStore();
        s.opens();
        s.sets(0, 1);
        s.opens();
        s.sets(1, 1);
        s.opens();
        s.sets(0, 0);
        s.sets(2, 1);
        due("back(4)", -1, s.back(4));
        due("back(-1)", -1, s.back(-1));
        due("back(3)", 0, s.back(3));
        dueRow(s, "back(3)", 0);
        due("back(0)", 3, s.back(0));
        dueRow(s, "back(0)", 2);
        due("count(4)", 10000, s.count(4));
        due("count(0)", 0, s.count(0));
    }

    private static void promise23() {
        TrailStore s = new TrailStore();
        due("commits of none", -2, s.commits());
        s.opens();
        s.sets(3, 1);
        s.sets(1, 1);
        s.opens();
        s.sets(0, 1);
        s.sets(1, 2);
        s.removes(0, 0);
        due("commits", 1, s.commits());
        dueRow(s, "commits", 4, 1);
        s.trail(1);
        dueRow(s, "trail", 3, 1, 0, 10);
        due("commits", 0, s.commits());
        dueRow(s, "commits of the first", 0, 0);
        due("cell", 2, s.cell(1));
        due("count(5)", 0, s.count(5));
    }

    private static void promise24() {
        TrailStore s = new TrailStore();
        due("none", 0, run(s, ""));
        dueRow(s, "none", 0);
        due("all sorts", 11, run(s, "A=12B+07C-99v-0w=3x<2y>4k5=40k5-?A=12p"));
        dueRow(s, "all sorts", 7);
        due("cells", 10000 + 12 + 7 - 99, s.count(4));
        due("values", 62, s.values(0));
        due("values", 8, s.values(1));
        due("values", 7, s.values(2));
        due("values", 48, s.values(3));
        due("the text is emptied", 0, s.count(8));
        due("asks", 5, run(s, "?A<13?A>11?w3k1=00?k1"));
        due("what changes nothing", 6, run(s, "w=3w<3w>3k1=00B+00B=07"));
        dueRow(s, "what changes nothing", 0);
        due("the last variable and value", 4, run(s, "z-0?z5z>5?z5"));
        due("numbers below 0", 2, run(s, "F=00[F-99F-99F-99F-99F-99F-99F-99F-99F-99F-99]F+00"));
        String[] refused = {"A=00?A<00", "?A>12", "?A=11", "?w2", "?k2", "w-3", "w=2", "w<2", "w>4", "k7-", "B=05F=99F+99F+99F+99"
            + "F+99F+99F+99F+99F+99F+99F+99", "C-99C-99C-99C-99C-99C-99C-99C-99C-99C-99", "A=01[?w2]", "{?w2|?k2}", "((?w2))[w-3]"};
        int[] at = {4, 0, 0, 0, 0, 0, 0, 0, 0, 0, 44, 36, 4, 0, 7};
        for (int i = 0; i < refused.length; i++) {
            due("run of " + refused[i], -100 - at[i], run(s, refused[i]));
        }
        due("nothing of these stays", 10000 + 12 + 7 - 99, s.count(4));
        faultsOfRuns(s);
        blocksOfRuns();
        levelsOfRuns();
    }

    private static void faultsOfRuns(TrailStore s) {
        String[] texts = {"G", "A", "A<", "A=", "A=1", "A=1x", "v", "v+", "v-", "v-6", "v<9", "k", "kx", "k1", "k1+", "k1=", "k1=0",
            "k1=0-", "q", "?", "?p", "?A", "?A+", "?A<", "?A<1", "?v", "?v6", "?vv", "?k", "?kk", ")", "]", "}", "|", "(", "[p", "{p|",
            "(p]", "[p)", "{p)", "(p|p)", "[|]", "(((((", "((((p))))p)", "A=01 ", "p,"};
        int[] faults = {0, 1, 1, 2, 3, 3, 1, 1, 2, 2, 2, 1, 1, 2, 2, 3, 4, 4, 0, 1, 1, 2, 2, 3, 4, 2, 2, 2, 2, 2, 0, 0, 0, 0, 1, 2, 3,
            2, 2, 2, 2, 1, 4, 10, 4, 1};
        for (int i = 0; i < texts.length; i++) {
            due("run of " + texts[i], -1 - faults[i], run(s, texts[i]));
            due("the text is emptied", 0, s.count(8));
        }
        int sum = s.count(4);
        due("nothing is done ahead of a fault", -1 - 4, run(s, "A+01*"));
        due("count(4)", sum, s.count(4));
    }

    private static void blocksOfRuns() {
        TrailStore s = new TrailStore();
        s.opens();
        due("empty blocks", 0, run(s, "()[]{}{|}"));
        due("( ) that is done", 2, run(s, "(A=01)B=01"));
        due("( ) that is not", 1, run(s, "(A=02?w0w-0?w0)B=02"));
        due("cell", 1, s.cell(0));
        due("values", 63, s.values(1));
        due("[ ] that is done", 1, run(s, "[A=05?A=05C=01]B=03"));
        due("cell", 1, s.cell(0));
        due("{ } the second", 2, run(s, "{A=05?A=04|?A=01D=01|E=01}"));
        due("cell", 1, s.cell(3));
        due("cell", 0, s.cell(4));
        due("in one another", 3, run(s, "{(A+01[A+01?A=03]{?A=09|A+01(?k1)})A+01}"));
        due("cell", 4, s.cell(0));
        due("behind a block with blocks in it", 1, run(s, "{((?k1)){?k2|?k3}E=08|[()]?k1|B=03|B=04}"));
        due("cell", 3, s.cell(1));
        due("trail", 3, s.trail(1));
        dueRow(s, "what was undone is on no trail", 0, 1, 3);
        due("a refusal that no block takes", -100 - 4, run(s, "A=09[E=01?k1]"));
        due("trail", 3, s.trail(1));
        s.closes();
        due("count(4)", 10000, s.count(4));
        s.opens();
        due("as it was again", 2, run(s, "A+01A-01"));
        dueRow(s, "as it was again", 0);
        due("trail", 1, s.trail(1));
    }

    private static void levelsOfRuns() {
        TrailStore s = new TrailStore();
        for (int d = 0; d < 8; d++) {
            s.opens();
        }
        due("one level is free", 1, run(s, "(A=01)"));
        due("( ) in it is not", 0, run(s, "((A=02))"));
        due("{ } goes on", 1, run(s, "{(B=01)|C=01}"));
        due("cell", 0, s.cell(1));
        s.opens();
        due("none is free", -100, run(s, "()"));
        due("none is free", -104, run(s, "A=07{}"));
        due("none is free", -101, run(s, "p[]"));
        due("cell", 1, s.cell(0));
        due("trail", 0, s.trail(9));
        due("without a block", 1, run(s, "A=07"));
    }

    private static void promise25() {
        TrailStore s = with("v<w,!xy");
        s.sets(0, -5);
        s.puts(3, -999);
        s.fixes(4, 2);
        s.opens();
        s.sets(0, 6);
        s.drops(3);
        s.lifts(0);
        s.opens();
        due("was(1, 0)", 995, s.was(1, 0));
        due("was(2, 0)", 1006, s.was(2, 0));
        due("was(1, 14)", 4, s.was(1, 14));
        due("was(1, 10)", 63, s.was(1, 10));
        due("was(1, 23)", 1, s.was(1, 23));
        due("was(2, 23)", 0, s.was(2, 23));
        due("was(1, 30)", 2, s.was(1, 30));
        due("was(2, 30)", 1, s.was(2, 30));
        due("was(3, 0)", -1, s.was(3, 0));
        due("was(0, 0)", -1, s.was(0, 0));
        for (int thing : new int[] {-1, 6, 9, 15, 19, 31}) {
            due("was(1, " + thing + ")", -1, s.was(1, thing));
        }
    }

    private static void promise26() {
        TrailStore s = new TrailStore();
        s.sets(0, 1);
        s.opens();
        s.puts(9, 1);
        s.removes(0, 0);
        s.sets(5, 0);
        s.sets(5, 1);
        s.puts(9, 2);
        s.puts(9, 2);
        due("trail", 3, s.trail(1));
        dueRow(s, "trail", 29, 10, 5);
        s.opens();
        due("trail(2)", 0, s.trail(2));
        dueRow(s, "trail(2)");
        due("trail(3)", -1, s.trail(3));
        due("trail(0)", -1, s.trail(0));
        s.drops(9);
        s.trail(2);
        dueRow(s, "a key that goes", 29);
    }

    private static void promise27() {
        TrailStore s = new TrailStore();
        s.opens();
        s.sets(0, 1);
        s.opens();
        s.opens();
        s.sets(0, 2);
        due("since(0)", 10, s.since(0));
        dueRow(s, "since(0)", 2);
        due("since(1)", 0, s.since(1));
        dueRow(s, "since(1)", 0);
        due("since(30)", 0, s.since(30));
        for (int thing : new int[] {-1, 6, 15, 31, 64}) {
            due("since(" + thing + ")", -1, s.since(thing));
        }
    }

    private static void promise28() {
        TrailStore s = new TrailStore();
        s.opens();
        s.puts(2, 1);
        s.sets(0, 1);
        s.opens();
        s.sets(0, 0);
        s.removes(2, 2);
        due("would(0)", 2, s.would(0));
        dueRow(s, "would(0)", 12, 22);
        due("would(1)", 2, s.would(1));
        dueRow(s, "would(1)", 0, 12);
        due("would(2)", 0, s.would(2));
        dueRow(s, "would(2)");
        due("would(3)", -1, s.would(3));
        due("would(-1)", -1, s.would(-1));
        due("count(0)", 2, s.count(0));
    }

    private static void promise29() {
        TrailStore s = with("v<w");
        s.opens();
        s.lifts(0);
        posts(s, "v<w-1");
        s.sets(4, 1);
        s.opens();
        s.sets(4, 0);
        s.opens();
        due("between(1, 2)", 2, s.between(1, 2));
        dueRow(s, "between(1, 2)", 4, 30);
        due("between(3, 1)", 1, s.between(3, 1));
        dueRow(s, "between(3, 1)", 30);
        due("between(2, 2)", 0, s.between(2, 2));
        dueRow(s, "between(2, 2)");
        due("between(0, 1)", -1, s.between(0, 1));
        due("between(1, 4)", -1, s.between(1, 4));
    }

    private static void promise30() {
        TrailStore s = with("v<w,w<x,x<y,y<z");
        due("many", 6, s.many());
        dueRow(s, "many", 0, 1, 2, 3, 4);
        s.fixes(0, 2);
        due("many of none", 0, s.many());
        dueRow(s, "many of none");
        due("many of a new one", 7776, new TrailStore().many());
        due("all differ", 720, with("!vwxyz").many());
        due("v = w + 1, x # y", 6 * 5 * 6 * 5, with("v=w+1,x#y").many());
    }

    private static void promise31() {
        TrailStore s = with("v<w,w<x,x<y,y<z");
        due("nth(6)", 0, s.nth(6));
        dueRow(s, "nth(6)", 1, 2, 3, 4, 5);
        due("nth(2)", 0, s.nth(2));
        dueRow(s, "nth(2)", 0, 1, 2, 3, 5);
        due("nth(1)", 0, s.nth(1));
        dueRow(s, "nth(1)", 0, 1, 2, 3, 4);
        TrailStore all = new TrailStore();
        due("nth(7776)", 0, all.nth(7776));
        dueRow(all, "nth(7776)", 5, 5, 5, 5, 5);
        s.nth(2);
        due("nth(7)", -2, s.nth(7));
        due("nth(MAX)", -2, s.nth(Integer.MAX_VALUE));
        due("nth(0)", -1, s.nth(0));
        due("nth(MIN)", -1, s.nth(Integer.MIN_VALUE));
        dueRow(s, "answers below 0", 0, 1, 2, 3, 5);
    }

    private static void promise32() {
        TrailStore s = with("v=w+5,x<y");
        s.limits(3, 0, 1);
        due("always", 15, s.always());
        dueRow(s, "always", 5, 0, 0, 1);
        s.fixes(0, 0);
        due("always of none", -2, s.always());
        dueRow(s, "always of none", 5, 0, 0, 1);
        TrailStore t = new TrailStore();
        t.many();
        due("always of all", 0, t.always());
        dueRow(t, "always of all");
    }

    private static void promise33() {
        TrailStore s = with("v#w,w#x,v#x");
        Edges.limited(s, 0, 1);
        due("three of two", 0, s.search(0));
        dueRow(s, "three of two", 2, 2, 1, 2);
        due("nothing changes", 10, s.count(1));
        due("search(3)", -1, s.search(3));
        due("search(-1)", -1, s.search(-1));

        TrailStore t = with("z#y,z#x");
        t.limits(1, 0, 1);
        due("the least", 1, t.search(0));
        dueRow(t, "the least", 5, 0, 5, 6, 0, 0, 0, 0, 1);
        due("the fewest values", 1, t.search(1));
        dueRow(t, "the fewest values", 5, 0, 5, 7, 0, 0, 0, 0, 1);
        due("the most constraints", 1, t.search(2));
        dueRow(t, "the most constraints", 5, 0, 5, 7, 0, 0, 1, 1, 0);

        TrailStore m = with("v#w,!wxy,y#z");
        due("the most constraints, sets too", 1, m.search(2));
        // w has 0 first, then y 1, then v and x and z
        dueRow(m, "the most constraints, sets too", 5, 0, 5, 4 + 3 + 1 + 1 + 1, 1, 0, 2, 1, 0);
        m.many();
        m.search(1);
        due("anew each time", 1, m.search(2));
        dueRow(m, "anew each time", 5, 0, 5, 10, 1, 0, 2, 1, 0);

        TrailStore u = with("y#z,y#z+1,y#z-1");
        u.limits(3, 0, 1);
        u.limits(4, 0, 1);
        due("too many nodes", 2, u.search(0));
        // a node of x has two in it, which fail: 115 nodes with 72 that fail in the first of v, then 85 with 52
        dueRow(u, "too many nodes", 200, 124, 4, 200);
        due("fewest first", 0, u.search(1));
        dueRow(u, "fewest first", 2, 2, 1, 2);

        TrailStore f = with("v<w,w<v");
        due("the first spread fails", 0, f.search(1));
        dueRow(f, "the first spread fails", 0, 1, 0, 0);

        TrailStore o = with("v<w,w<x,x<y,y<z");
        o.fixes(0, 1);
        due("the first spread is enough", 1, o.search(2));
        dueRow(o, "the first spread is enough", 0, 0, 0, 4, 1, 2, 3, 4, 5);
    }

    private static void promise34() {
        TrailStore s = with("!vw");
        s.sets(0, 2);
        s.sets(1, 2);
        s.sets(4, -3);
        s.sets(5, 99);
        due("best", 2 * 36, s.best());
        dueRow(s, "best", 18, 4, 5, 0, 0, 0);
        s.sheet(2, 5, -999, 0);
        due("best below 0", 2, s.best());
        dueRow(s, "best below 0", -999, 0, 1, 0, 0, 0);
        posts(s, "v=w");
        due("best of none", -2, s.best());
        dueRow(s, "best of none", -999, 0, 1, 0, 0, 0);
    }

    private static void promise35() {
        TrailStore s = with("v<w,z<x-3");
        due("shadows(1)", 5, s.shadows(1));
        dueRow(s, "shadows(1)", 5 * 6 * 3, 0);
        due("shadows(21)", 15, s.shadows(21));
        dueRow(s, "shadows(21)", 30, 0, 4, 0);
        due("shadows(2)", 5, s.shadows(2));
        dueRow(s, "of as many the most", 90, 5);
        for (int set : new int[] {0, 15, 31, 32, -1, 33}) {
            due("shadows(" + set + ")", -1, s.shadows(set));
        }
        s.fixes(0, 5);
        due("shadows of none", 0, s.shadows(7));
        dueRow(s, "shadows of none");
    }

    private static void promise36() {
        TrailStore s = with("v<w,x#y,y#z,x#z");
        s.limits(1, 0, 3);
        s.removes(1, 1);
        s.limits(2, 0, 1);
        s.limits(3, 0, 1);
        s.limits(4, 0, 1);
        due("all of x, y, z, since they can't be", 1 << 3 | 1 << 4 | 1 << 5 | 1 << 6 | 3 << 12 | 3 << 18 | 3 << 24, s.probes());
        dueRow(s, "how many", 10);
        due("nothing changes", 6 + 3 + 6, s.count(1));
        TrailStore t = with("v=w+1");
        due("probes", 1 | 1 << 11, t.probes());
        dueRow(t, "probes", 2);
    }

    private static void promise37() {
        TrailStore s = with("v<w,w<x");
        s.removes(3, 3);
        s.many();
        due("leaves", 1 + 3 + 3 + 5 + 6, s.leaves(0, 1));
        dueRow(s, "leaves", 2, 28, 56, 55, 63);
        due("it fails", -3, s.leaves(0, 4));
        due("not there", -2, s.leaves(3, 3));
        due("leaves(3, 6)", -1, s.leaves(3, 6));
        due("leaves(5, 0)", -1, s.leaves(5, 0));
        due("leaves(-1, -1)", -1, s.leaves(-1, -1));
        dueRow(s, "answers below 0", 2, 28, 56, 55, 63);
        due("nothing changes", 29, s.count(1));
    }

    private static void promise38() {
        TrailStore s = with("!vwxyz,v<w,w<x,w<v,x<v");
        due("culprits", 10, s.culprits());
        dueRow(s, "culprits", 2);
        s.lifts(3);
        due("culprits", 14, s.culprits());
        dueRow(s, "culprits", 3);
        s.lifts(3);
        due("culprits of what does not fail", -2, s.culprits());
        dueRow(s, "an answer below 0", 3);
        due("without constraints", -2, new TrailStore().culprits());
    }

    private static void promise39() {
        TrailStore s = with("v<w,w<x,v<x,!vwx");
        due("why(0, 5)", 1, s.why(0, 5));
        dueRow(s, "why(0, 5)", 1);
        due("why(0, 4)", 3, s.why(0, 4));
        dueRow(s, "why(0, 4)", 2);
        due("why(2, 0)", 2, s.why(2, 0));
        due("neither", -2, s.why(0, 0));
        s.removes(0, 5);
        due("not there", -3, s.why(0, 5));
        due("why(0, 6)", -1, s.why(0, 6));
        due("why(5, 0)", -1, s.why(5, 0));
        posts(s, "y<z-9");
        due("it fails", 16, s.why(0, 0));
        due("it would go, or fail", 2, s.why(2, 0));
    }

    private static void promise40() {
        TrailStore s = with("v<w,w<x,x<v,y#z");
        due("mends", 1, s.mends());
        dueRow(s, "mends", 1, 20 * 30);
        due("nothing changes", 4, s.count(3));
        posts(s, "y<z-9,z<y-9");
        due("mends", 1 | 16 | 32, s.mends());
        dueRow(s, "mends", 3, 20 * 30);
        TrailStore t = with("!vwxyz");
        due("none has to go", 0, t.mends());
        dueRow(t, "none has to go", 0, 720);
    }

    private static void promise41() {
        TrailStore s = new TrailStore();
        s.fixes(0, 0);
        due("of a value that is not there", 1, s.heard(0, 5, 0));
        due("once more", 2, s.heard(0, 5, 0));
        due("is 2", -1, s.heard(0, 0, 2));
        due("is -1", -1, s.heard(0, 0, -1));
        due("of 5", -1, s.heard(5, 0, 1));
        due("of -1", -1, s.heard(-1, 0, 1));
        due("value 6", -1, s.heard(0, 6, 1));
        due("value -1", -1, s.heard(0, -1, 1));
        for (int n = 3; n <= 10; n++) {
            due("heard", n, s.heard(4, 3, 1));
        }
        due("an eleventh", -1, s.heard(4, 3, 1));
        due("count(6)", 10, s.count(6));
        s.opens();
        s.closes();
        due("levels leave it", 10, s.count(6));
    }

    private static void promise42() {
        TrailStore s = new TrailStore();
        due("forget of none", 0, s.forget());
        s.heard(0, 1, 1);
        s.heard(1, 1, 0);
        due("forget", 2, s.forget());
        due("forget again", 0, s.forget());
        due("fits", 7776, s.fits());
    }

    private static void promise43() {
        TrailStore s = with("v<w");
        s.heard(0, 3, 1);
        s.heard(1, 4, 0);
        due("fits", 216, s.fits());
        dueRow(s, "fits", 3, 5, 0, 0, 0);
        s.heard(1, 5, 0);
        due("fits none", 0, s.fits());
        dueRow(s, "fits none");
        due("many all the same", 15 * 216, s.many());
    }

    private static void promise44() {
        TrailStore s = new TrailStore();
        due("asks", 0, s.asks());
        dueRow(s, "asks", 6480);
        s.limits(3, 2, 4);
        s.limits(2, 4, 5);
        due("asks", 16, s.asks());
        dueRow(s, "asks", 6 * 6 * 6 * 3);
        s.heard(2, 5, 1);
        due("asks", 20, s.asks());
        dueRow(s, "asks", 6 * 6 * 6 * 2);
        for (int x = 0; x < 5; x++) {
            s.fixes(x, x == 2 ? 5 : 4);
        }
        due("one is left", 0, s.asks());
        dueRow(s, "one is left", 1);
        s.heard(0, 4, 0);
        due("none fits", -2, s.asks());
        dueRow(s, "an answer below 0", 1);
    }

    private static void promise45() {
        TrailStore s = with("v<w,!wxyz");
        s.opens();
        s.sets(0, 5);
        s.opens();
        s.puts(4, 1);
        due("n 0", -1, s.years(1, 0));
        due("n 41", -1, s.years(1, 41));
        due("n -1", -1, s.years(1, -1));
        s.keep(0);
        int r = 1 * 1103515245 + 12345;
        due("the first draw of seed 1", 6, (r >>> 16) % 8);
        due("one commit", 1, s.years(1, 1));
        dueRow(s, "one commit", 5, 30, 1, 2);
        for (int seed = -3; seed <= 3; seed++) {
            s.years(seed * 1000003, 40);
        }
        due("all stays as it is", 0, s.differs(0));
        due("levels, too", 2, s.count(0));
        due("trails, too", 2, s.count(5));
        due("the trail, too", 1, s.trail(1));
        dueRow(s, "the trail, too", 0);
        yearsByCalls();
    }

    /** Does the same by calls, on a store of its own. */
    private static void yearsByCalls() {
        for (int seed = -50; seed <= 50; seed++) {
            TrailStore dreams = yearsBegin();
            TrailStore does = yearsBegin();
            dreams.years(seed, 40);
            int n = 1 + Math.abs(seed) % 40;
            int[] r = {seed * 7654321};
            for (int i = 0; i < n; i++) {
                yearByCalls(does, r);
            }
            due("years", does.count(0), dreams.years(seed * 7654321, n));
            dueRow(dreams, "years", does.count(4) - 10000, does.count(1), does.count(2), does.count(5));
        }
    }

    /** Levels with trails, which years may close or commit. */
    private static TrailStore yearsBegin() {
        TrailStore s = with("v<w,!wxyz");
        s.opens();
        s.sets(0, 3);
        s.removes(2, 2);
        s.opens();
        s.sets(1, 4);
        s.sets(0, 1);
        s.puts(3, 3);
        return s;
    }

    private static int draw(int[] r, int n) {
        r[0] = r[0] * 1103515245 + 12345;
        return (int) ((r[0] & 0xFFFFFFFFL) / 65536 % n);
    }

    private static void yearByCalls(TrailStore s, int[] r) {
        int what = draw(r, 8);
        if (what == 0) {
            int i = draw(r, 6);
            s.adds(i, draw(r, 41) - 20);
        } else if (what == 1) {
            int x = draw(r, 5);
            s.removes(x, draw(r, 6));
        } else if (what == 2) {
            int key = draw(r, 10);
            s.puts(key, draw(r, 100));
        } else if (what == 3) {
            s.drops(draw(r, 10));
        } else if (what == 4) {
            s.opens();
        } else if (what == 5) {
            s.closes();
        } else if (what == 6) {
            s.commits();
        } else {
            s.spreads();
        }
    }

    private static void promise46() {
        TrailStore s = new TrailStore();
        due("keep(2)", false, s.keep(2));
        due("keep(-1)", false, s.keep(-1));
        s.sets(0, 1);
        due("keep(0)", true, s.keep(0));
        s.sets(0, 2);
        due("keep(1)", true, s.keep(1));
        s.sets(0, 3);
        due("keep(0) anew", true, s.keep(0));
        s.again(1);
        due("cell", 2, s.cell(0));
        s.again(0);
        due("cell", 3, s.cell(0));
    }

    private static void promise47() {
        TrailStore s = with("v<w,!wx");
        s.puts(1, 1);
        s.puts(2, 2);
        s.fixes(0, 0);
        due("again(0) of nothing", false, s.again(0));
        due("again(2)", false, s.again(2));
        due("again(-1)", false, s.again(-1));
        s.opens();
        s.sets(5, 7);
        s.keep(0);
        s.drops(1);
        s.puts(1, 1);
        s.lifts(0);
        s.sets(5, 0);
        s.heard(0, 0, 1);
        due("again(0)", true, s.again(0));
        due("no level is open", 0, s.count(0));
        due("no trail", 0, s.count(5));
        due("cell", 7, s.cell(5));
        due("values", 1, s.values(0));
        due("order of pairs", 1, s.pair(0, 0));
        due("constraints", 2, s.count(3));
        due("constraint", 0, s.constraint(0, 0));
        due("what was heard", 1, s.count(6));
        s.sets(5, 1);
        due("again(0) twice", true, s.again(0));
        due("cell", 7, s.cell(5));
    }

    private static void promise48() {
        TrailStore s = with("v<w");
        due("differs(0) of nothing", -2, s.differs(0));
        due("differs(2)", -1, s.differs(2));
        due("differs(-1)", -1, s.differs(-1));
        s.puts(1, 1);
        s.puts(2, 1);
        s.keep(1);
        s.drops(1);
        s.puts(1, 1);
        due("another place", 0, s.differs(1));
        dueRow(s, "another place");
        s.puts(1, 2);
        s.drops(2);
        s.lifts(0);
        s.removes(4, 4);
        s.sets(3, 3);
        due("differs", 5, s.differs(1));
        dueRow(s, "differs", 3, 14, 21, 22, 30);
        due("differs(0) of nothing", -2, s.differs(0));
        dueRow(s, "an answer below 0", 3, 14, 21, 22, 30);
    }

    private static void promise49() {
        TrailStore s = with("v<w,!wx");
        s.opens();
        s.sets(0, -7);
        s.sets(5, 3);
        s.fixes(3, 3);
        s.removes(1, 0);
        s.puts(8, 1);
        s.opens();
        s.sets(0, -8);
        s.heard(0, 0, 0);
        s.would(0);
        s.sign(0);
        int[] want = {2, 24, 1, 2, 9995, 6, 1, 5, 4, 8};
        for (int what = 0; what < want.length; what++) {
            due("count(" + what + ")", want[what], s.count(what));
        }
        s.fixes(0, 5);
        s.fixes(4, 5);
        due("count(9)", 25, s.count(9));
        due("count(10)", -100, s.count(10));
        due("count(-1)", -100, s.count(-1));
    }

    private static void promise50() {
        TrailStore s = new TrailStore();
        dueThrows("row(0) of a new one", () -> s.row(0));
        s.best();
        due("row(5)", 0, s.row(5));
        dueThrows("row(6)", () -> s.row(6));
        dueThrows("row(-1)", () -> s.row(-1));
        s.sets(0, 1);
        due("calls without a row leave it", 6, s.count(7));
        s.would(0);
        dueThrows("row(0) of an empty one", () -> s.row(0));
    }

    private static void all(int n) {
        promise = n;
        switch (n) {
            case 1: promise1(); break;
            case 2: promise2(); break;
            case 3: promise3(); break;
            case 4: promise4(); break;
            case 5: promise5(); break;
            case 6: promise6(); break;
            case 7: promise7(); break;
            case 8: promise8(); break;
            case 9: promise9(); break;
            case 10: promise10(); break;
            case 11: promise11(); break;
            case 12: promise12(); break;
            case 13: promise13(); break;
            case 14: promise14(); break;
            case 15: promise15(); break;
            case 16: promise16(); break;
            case 17: promise17(); break;
            case 18: promise18(); break;
            case 19: promise19(); break;
            case 20: promise20(); break;
            case 21: promise21(); break;
            case 22: promise22(); break;
            case 23: promise23(); break;
            case 24: promise24(); break;
            case 25: promise25(); break;
            case 26: promise26(); break;
            case 27: promise27(); break;
            case 28: promise28(); break;
            case 29: promise29(); break;
            case 30: promise30(); break;
            case 31: promise31(); break;
            case 32: promise32(); break;
            case 33: promise33(); break;
            case 34: promise34(); break;
            case 35: promise35(); break;
            case 36: promise36(); break;
            case 37: promise37(); break;
            case 38: promise38(); break;
            case 39: promise39(); break;
            case 40: promise40(); break;
            case 41: promise41(); break;
            case 42: promise42(); break;
            case 43: promise43(); break;
            case 44: promise44(); break;
            case 45: promise45(); break;
            case 46: promise46(); break;
            case 47: promise47(); break;
            case 48: promise48(); break;
            case 49: promise49(); break;
            default: promise50(); break;
        }
    }

    public static void main(String[] args) {
        for (int n = 1; n <= 50; n++) {
            all(n);
        }
        System.out.println(wrong == 0 ? asked + " answers are as due" : wrong + " answers are not as due");
        if (wrong != 0) {
            System.exit(1);
        }
    }
}
