import java.util.List;
import java.util.function.Supplier;

/** The edges that the terms name, which all promises use: limits, what is otherwise, trails, spreading, refusals. */
public final class EdgeTermsTest {
    private static Edges e;

    private static void trail(String what, TrailStore s, int d, long... want) {
        e.due(what + ": trail(" + d + ")", want.length, s.trail(d));
        e.dueRow(what + ": trail(" + d + ")", s, want);
    }

    private static void limits() {
        e.says("1. CELLS 0 .. 5 (in texts A .. F): numbers -999 .. 999 (at first 0).");
        TrailStore s = new TrailStore();
        for (int i = 0; i < 6; i++) {
            e.due("cell(" + i + ")", 0, s.cell(i));
            e.due("run", 1, Edges.run(s, (char) ('A' + i) + "=9" + i));
            e.due("cell(" + i + ")", 90 + i, s.cell(i));
            e.due("the greatest", 1090 + i, s.sets(i, 999));
            e.due("the least", 1999, s.sets(i, -999));
            e.due("beyond", -1, s.sets(i, 1000));
            e.due("beyond", -1, s.sets(i, -1000));
        }
        e.says("VARIABLES 0 .. 4 (in texts v .. z): VALUES 0 .. 5 that are left, one at least (at first all).");
        for (int x = 0; x < 5; x++) {
            e.due("values(" + x + ")", 63, s.values(x));
            e.due("run", 1, Edges.run(s, (char) ('v' + x) + "-" + x));
            e.due("values(" + x + ")", 63 & ~(1 << x), s.values(x));
            s.fixes(x, 5);
            e.due("the last one stays", -3, s.removes(x, 5));
            e.due("values(" + x + ")", 32, s.values(x));
        }
        e.says("PAIRS, at most 8: a KEY 0 .. 9 (each once) and a number -999 .. 999, in the order in which they came (at first none).");
        e.due("at first", 0, s.count(2));
        for (int key = 9; key >= 0; key--) {
            int place = 9 - key;
            e.due("puts(" + key + ", 1)", place < 8 ? place : -2, s.puts(key, 1));
            e.due("once more", place < 8 ? place : -2, s.puts(key, -999));
        }
        e.due("count(2)", 8, s.count(2));
        e.due("the first that came", 9, s.pair(0, 0));
        e.due("the last that came", 2, s.pair(7, 0));
        e.due("beyond", -1, s.puts(9, 1000));
        e.says("CONSTRAINTS, at most 8, numbered 0, 1, .. as they came (at first none): of two different VARIABLES x, y and d -9 .. 9: "
                + "0: x < y + d; 1: x = y + d; 2: x is not y + d; 3: of a set of 2 to 5 VARIABLES: no two are equal.");
        e.due("at first", 0, new TrailStore().count(3));
        for (int d = -9; d <= 9; d++) {
            String tail = (d < 0 ? "-" : "+") + Math.abs(d);
            int[] pairs = new int[3];
            for (int x = 0; x < 6; x++) {
                for (int y = 0; y < 6; y++) {
                    pairs[0] += x < y + d ? 1 : 0;
                    pairs[1] += x == y + d ? 1 : 0;
                    pairs[2] += x != y + d ? 1 : 0;
                }
            }
            for (int sort = 0; sort < 3; sort++) {
                TrailStore t = Edges.with("w" + "<=#".charAt(sort) + "z" + tail);
                e.due("d", d, t.constraint(0, 3));
                e.due("many", pairs[sort] * 216, t.many());
            }
        }
        e.due("two that are the same", -1 - 2, Edges.posts(new TrailStore(), "v<v"));
        String[] sets = {"!vz", "!vxz", "!vwyz", "!vwxyz"};
        int[] many = {30 * 216, 120 * 36, 360 * 6, 720};
        for (int i = 0; i < sets.length; i++) {
            e.due(sets[i], many[i], Edges.with(sets[i]).many());
        }
        e.due("a set of one", -1 - 2, Edges.posts(new TrailStore(), "!v"));
        e.due("a ninth", -100, Edges.posts(Edges.full(), "!vw"));
    }

    private static void otherwise() {
        e.says("THINGS: CELLS 0 .. 5, VARIABLES 10 .. 14, KEYS 20 .. 29, 30: all CONSTRAINTS together.");
        for (int thing = -2; thing <= 40; thing++) {
            int number = thing;
            boolean is = thing >= 0 && thing <= 5 || thing >= 10 && thing <= 14 || thing >= 20 && thing <= 30;
            e.due("since(" + thing + ")", is ? 0 : -1, new TrailStore().since(number));
            e.due("was(1, " + thing + ")", is, Edges.opened(new TrailStore(), 1).was(1, number) >= 0);
        }
        e.says("OTHERWISE: another number of a CELL, other VALUES of a VARIABLE, a KEY that is there or not, another number of it (its place aside), "
                + "another row of CONSTRAINTS.");
        TrailStore s = Edges.with("v<w,w<x");
        s.puts(1, 5);
        s.puts(2, 6);
        s.keep(0);
        s.drops(1);
        s.puts(1, 5);
        e.due("its place aside", 0, s.differs(0));
        s.sets(3, 1);
        s.removes(1, 1);
        s.drops(2);
        s.puts(3, 0);
        s.puts(1, 4);
        s.lifts(0);
        Edges.posts(s, "v<w");
        e.due("one of each", 6, s.differs(0));
        e.dueRow("one of each", s, 3, 11, 21, 22, 23, 30);
        TrailStore v = new TrailStore();
        v.removes(0, 0);
        v.keep(0);
        v.renews(0);
        v.removes(0, 1);
        e.due("as many VALUES, but others", 1, v.differs(0));
        e.says("LEVELS: DEPTH says how many are open (0 .. 9; at first 0), 1 the first.");
        TrailStore levels = new TrailStore();
        e.due("at first", 0, levels.count(0));
        for (int d = 1; d <= 9; d++) {
            levels.sets(0, d);
            e.due("opens()", d, levels.opens());
        }
        e.due("opens() at 9", -2, levels.opens());
        e.due("1 the first", 1001, levels.was(1, 0));
        e.due("9 the last", 1009, levels.was(9, 0));
    }

    private static void trails() {
        e.says("An act CHANGES a THING that is OTHERWISE behind it (a KEY, too, that goes or comes).");
        TrailStore s = Edges.with("v<w");
        s.puts(1, 0);
        s.fixes(4, 4);
        s.opens();
        s.sets(0, 0);
        s.adds(0, 0);
        s.sheet(2, 0, 1, 1);
        s.fixes(4, 4);
        s.limits(4, 0, 5);
        s.removes(4, 3);
        s.puts(1, 0);
        s.drops(2);
        Edges.posts(s, "");
        Edges.posts(s, "v<");
        s.lifts(1);
        trail("acts that leave all as it is", s, 1);
        s.drops(1);
        trail("a KEY that goes", s, 1, 21);
        s.puts(0, 0);
        trail("a KEY that comes", s, 1, 21, 20);
        e.says("TRAIL of a LEVEL: THINGS that were CHANGED while it was the latest one that is open (if they are as they were again, too), "
                + "and those that come to it by commits(), each once, in the order in which they first were (by one act: by number); "
                + "closing another LEVEL changes no TRAIL.");
        TrailStore t = new TrailStore();
        t.sets(5, 1);
        t.opens();
        t.sets(4, 1);
        t.sets(4, 0);
        t.sets(2, 1);
        t.sets(4, 2);
        trail("each once, as they were again, too", t, 1, 4, 2);
        t.opens();
        t.sets(1, 1);
        t.sets(2, 0);
        trail("while it was the latest", t, 1, 4, 2);
        trail("while it was the latest", t, 2, 1, 2);
        t.commits();
        trail("by commits()", t, 1, 4, 2, 1);
        t.opens();
        t.sets(0, 1);
        t.opens();
        t.sets(3, 1);
        t.closes();
        trail("closing another one", t, 2, 0);
        t.closes();
        trail("closing another one", t, 1, 4, 2, 1);
        t.sheet(2, 6, 9, 1);
        trail("by one act: by number", t, 1, 4, 2, 1, 0, 3, 5);
        TrailStore u = new TrailStore();
        u.opens();
        Edges.run(u, "F=01z-0A=01(C=01B=01)k1=00k0=00w-0");
        trail("acts of a run, one by one", u, 1, 5, 14, 0, 2, 1, 21, 20, 11);
        e.says("A LEVEL can be closed: all THINGS are as they were when it was opened (PAIRS in the order they had then, too).");
        TrailStore p = Edges.with("v<w,!xyz");
        int[] keys = {4, 9, 0, 7};
        for (int key : keys) {
            p.puts(key, key);
        }
        p.opens();
        p.drops(4);
        p.drops(0);
        p.puts(4, 4);
        p.puts(0, 0);
        p.puts(1, 1);
        p.lifts(0);
        Edges.posts(p, "v<w");
        p.closes();
        e.due("count(2)", 4, p.count(2));
        for (int i = 0; i < keys.length; i++) {
            e.due("pair(" + i + ", 0)", keys[i], p.pair(i, 0));
            e.due("pair(" + i + ", 1)", keys[i], p.pair(i, 1));
        }
        e.due("the first CONSTRAINT", 0, p.constraint(0, 0));
        e.due("the second CONSTRAINT", 3, p.constraint(1, 0));
    }

    private static void solutions() {
        e.says("A SOLUTION: of each VARIABLE one of its VALUES, so that all CONSTRAINTS hold.");
        TrailStore s = Edges.with("v<w,w=x+1,!yz,y#v");
        s.removes(0, 0);
        s.limits(1, 0, 3);
        int many = 0;
        for (int row = 0; row < 7776; row++) {
            int v = row / 1296;
            int w = row / 216 % 6;
            int x = row / 36 % 6;
            int y = row / 6 % 6;
            int z = row % 6;
            many += v != 0 && w <= 3 && v < w && w == x + 1 && y != z && y != v ? 1 : 0;
        }
        e.due("many()", many, s.many());
        e.says("SOLUTIONS are ordered by their rows, from VARIABLE 0 on.");
        TrailStore o = Edges.with("v=z+4");
        e.due("nth(1)", 0, o.nth(1));
        e.dueRow("nth(1)", o, 4, 0, 0, 0, 0);
        e.due("nth(216)", 0, o.nth(216));
        e.dueRow("nth(216)", o, 4, 5, 5, 5, 0);
        e.due("nth(217)", 0, o.nth(217));
        e.dueRow("nth(217)", o, 5, 0, 0, 0, 1);
        e.says("To SPREAD: a VALUE of a VARIABLE goes, if a CONSTRAINT that has the VARIABLE can't hold with it, whichever VALUES that are left "
                + "the other VARIABLES of this CONSTRAINT have; and on, till none goes.");
        TrailStore p = Edges.with("v=w+2,x=v+2");
        p.removes(1, 0);
        e.due("v 3, w 1, x 5", 5 + 4 + 5, p.spreads());
        e.due("values(0)", 8, p.values(0));
        e.due("values(1)", 2, p.values(1));
        e.due("values(2)", 32, p.values(2));
        e.due("a gap", 2, gap().spreads());
        e.says("It FAILS, if a VARIABLE would have none.");
        p.removes(3, 0);
        Edges.posts(p, "w#x-4");
        e.due("w is x - 4", -2, p.spreads());
        e.due("nothing changes", 1 + 1 + 1 + 5 + 6, p.count(1));
        e.says("WORTH of a SOLUTION: the numbers of CELLS 0 .. 4, each times its VALUE of VARIABLE 0 .. 4, added up.");
        TrailStore b = new TrailStore();
        for (int x = 0; x < 5; x++) {
            b.fixes(x, x + 1);
        }
        b.sheet(2, 6, 1, 10);
        e.due("best()", 1, b.best());
        e.dueRow("best()", b, 1 + 11 * 2 + 21 * 3 + 31 * 4 + 41 * 5, 1, 2, 3, 4, 5);
    }

    /** With y 1 and 4 alone, x can be 2 and 5 alone: 3 and 4 go. */
    private static TrailStore gap() {
        TrailStore s = Edges.with("x=y+1");
        s.limits(3, 1, 4);
        s.removes(3, 2);
        s.removes(3, 3);
        s.removes(2, 0);
        s.removes(2, 1);
        return s;
    }

    private static void rows() {
        e.says("2. ROW: numbers told last by a call that says so. Sets are bits. Questions change nothing.");
        TrailStore s = Edges.rich();
        s.since(28);
        e.dueRow("told by since()", s, 2);
        s.sets(1, 5);
        s.removes(2, 2);
        s.puts(8, 9);
        s.opens();
        s.spreads();
        s.heard(1, 1, 1);
        s.forget();
        s.keep(1);
        s.was(1, 1);
        s.count(1);
        s.sign(0);
        s.end(0);
        Edges.posts(s, "v#w");
        s.lifts(0);
        s.again(1);
        s.sheet(2, 1, 1, 1);
        s.renews(0);
        s.drops(8);
        s.adds(0, 1);
        s.fixes(3, 3);
        s.limits(4, 0, 3);
        e.dueRow("calls that tell none leave it", s, 2);
        Edges.run(s, "p");
        // y is 3, which takes 1 from z, and v, which has all again, has no 5, as w has 5 at most
        e.dueRow("told by run()", s, 2);
        oneBehindAnother("few SOLUTIONS", EdgeTermsTest::small);
        oneBehindAnother("none", EdgeTermsTest::smallHopeless);
        oneBehindAnother("as much as there may be", Edges::full);
        e.says("Refused calls answer NONE, or false, and change nothing but THE TEXT, which a call that reads it empties.");
        for (String text : new String[] {"*", "v<w", "v-", "?k7", "A=01[?k7]"}) {
            e.refused(EdgeTermsTest::richWithoutText, "a refused run() of " + text, Edges.run(richWithoutText(), text), t -> Edges.run(t, text));
            e.due("it is refused", true, Edges.run(richWithoutText(), text) < 0);
        }
        for (String text : new String[] {"*", "v<", "v-", "A=01", "v<w,v<w,v<w,v<w,v<w,v<w,v<w"}) {
            e.refused(EdgeTermsTest::richWithoutText, "a refused posts() of " + text, Edges.posts(richWithoutText(), text), t -> Edges.posts(t, text));
            TrailStore t = richWithoutText();
            Edges.posts(t, text);
            e.due("THE TEXT is empty", 0, t.count(8));
        }
    }

    private static final List<Edges.Call> QUESTIONS = List.of(s -> s.was(1, 0), s -> s.trail(1), s -> s.since(0), s -> s.would(0),
            s -> s.between(1, 2), s -> s.many(), s -> s.nth(2), s -> s.always(), s -> s.search(0), s -> s.search(1),
            s -> s.search(2), s -> s.best(), s -> s.shadows(1), s -> s.shadows(26), s -> s.probes(), s -> s.leaves(1, 4),
            s -> s.culprits(), s -> s.why(1, 0), s -> s.mends(), s -> s.fits(), s -> s.asks(), s -> s.years(7, 40),
            s -> s.differs(0));

    /** Whichever question came ahead of it, a question answers as if none had; its ROW is its own alone, or stays. */
    private static void oneBehindAnother(String what, Supplier<TrailStore> made) {
        for (int a = 0; a < QUESTIONS.size(); a++) {
            for (int b = 0; b < QUESTIONS.size(); b++) {
                TrailStore s = made.get();
                QUESTIONS.get(a).on(s);
                List<Long> ahead = Edges.row(s);
                TrailStore t = made.get();
                long want = QUESTIONS.get(b).on(t);
                String pair = what + ": question " + b + " behind question " + a;
                e.due(pair, want, QUESTIONS.get(b).on(s));
                // was(), the first of them, tells no ROW
                boolean stays = want < 0 || b == 0;
                e.due(pair + " has its ROW", true, Edges.row(s).equals(stays ? ahead : Edges.row(t)));
            }
        }
    }

    /** Few rows, so that all pairs of questions are soon asked. */
    private static TrailStore small() {
        TrailStore s = Edges.limited(Edges.rich(), 2, 4);
        s.many();
        return s;
    }

    private static TrailStore smallHopeless() {
        TrailStore s = Edges.limited(Edges.with("v#w,w#x,v#x,y<z"), 3, 4);
        Edges.opened(s, 2);
        s.sets(0, 3);
        return s;
    }

    private static TrailStore richWithoutText() {
        TrailStore s = Edges.rich();
        s.end(0);
        return s;
    }

    private static void refusals() {
        e.says("NONE comes ahead of other answers below 0; the ROW stays with each answer below 0.");
        e.refused(Edges::rich, "sheet: another kind, n below 0", -1, s -> s.sheet(4, -1, 0, 0));
        e.refused(Edges::rich, "sheet: missing, n above 6", -1, s -> s.sheet(3, 7, 0, 0));
        e.refused(Edges::rich, "adds: no such, too much", -1, s -> s.adds(6, 5000));
        e.refused(Edges::rich, "removes: no such, of one VALUE", -1, s -> s.removes(0, 6));
        e.refused(Edges::rich, "limits: no such, none left", -1, s -> s.limits(0, 5, 6));
        e.refused(Edges::rich, "renews: no such, a LEVEL is open", -1, s -> s.renews(5));
        e.refused(Edges::full, "puts: no number, a ninth", -1, s -> s.puts(9, 1000));
        e.refused(Edges::full, "puts: no such, a ninth", -1, s -> s.puts(10, 0));
        e.refused(Edges::rich, "drops: no such, not there", -1, s -> s.drops(10));
        e.refused(EdgeTermsTest::hopeless, "nth: below 1, of none", -1, s -> s.nth(0));
        e.refused(EdgeTermsTest::hopeless, "leaves: no such, it FAILS", -1, s -> s.leaves(5, 0));
        e.refused(EdgeTermsTest::hopeless, "why: no such, it FAILS", -1, s -> s.why(0, 6));
        e.refused(TrailStore::new, "why: no such, neither is", -1, s -> s.why(5, 0));
        e.refused(TrailStore::new, "differs: no such, nothing is kept", -1, s -> s.differs(2));
        e.refused(EdgeTermsTest::hopeless, "spreads", -2, s -> s.spreads());
        e.refused(EdgeTermsTest::hopeless, "always", -2, s -> s.always());
        e.refused(EdgeTermsTest::hopeless, "best", -2, s -> s.best());
        e.refused(EdgeTermsTest::hopeless, "asks", -2, s -> s.asks());
        e.refused(EdgeTermsTest::hopeless, "closes", -2, s -> s.closes());
        e.refused(EdgeTermsTest::hopeless, "commits", -2, s -> s.commits());
        e.says("A THING, CELL, VARIABLE, VALUE, KEY, number that is none: NONE.");
        for (int none : new int[] {-1, Edges.MIN, Edges.MAX, 1000}) {
            e.refused(Edges::rich, "THING " + none, -1, s -> s.since(none));
            e.refused(Edges::rich, "THING " + none, -1, s -> s.was(1, none));
            e.refused(Edges::rich, "CELL " + none, -1, s -> s.sets(none, 0));
            e.refused(Edges::rich, "CELL " + none, -1, s -> s.adds(none, 0));
            e.refused(Edges::rich, "VARIABLE " + none, -1, s -> s.removes(none, 0));
            e.refused(Edges::rich, "VARIABLE " + none, -1, s -> s.fixes(none, 0));
            e.refused(Edges::rich, "VARIABLE " + none, -1, s -> s.limits(none, 0, 5));
            e.refused(Edges::rich, "VARIABLE " + none, -1, s -> s.renews(none));
            e.refused(Edges::rich, "VARIABLE " + none, -1, s -> s.leaves(none, 0));
            e.refused(Edges::rich, "VARIABLE " + none, -1, s -> s.why(none, 0));
            e.refused(Edges::rich, "VARIABLE " + none, -1, s -> s.heard(none, 0, 0));
            e.refused(Edges::rich, "VALUE " + none, -1, s -> s.removes(1, none));
            e.refused(Edges::rich, "VALUE " + none, -1, s -> s.fixes(1, none));
            e.refused(Edges::rich, "VALUE " + none, -1, s -> s.limits(1, none, 5));
            e.refused(Edges::rich, "VALUE " + none, -1, s -> s.limits(1, 0, none));
            e.refused(Edges::rich, "VALUE " + none, -1, s -> s.leaves(1, none));
            e.refused(Edges::rich, "VALUE " + none, -1, s -> s.why(1, none));
            e.refused(Edges::rich, "VALUE " + none, -1, s -> s.heard(1, none, 0));
            e.refused(Edges::rich, "KEY " + none, -1, s -> s.puts(none, 0));
            e.refused(Edges::rich, "KEY " + none, -1, s -> s.drops(none));
        }
        for (int none : new int[] {-1000, Edges.MIN, Edges.MAX, 1000}) {
            e.refused(Edges::rich, "number " + none, -1, s -> s.sets(0, none));
            e.refused(Edges::rich, "number " + none, -1, s -> s.puts(0, none));
        }
    }

    private static TrailStore hopeless() {
        TrailStore s = new TrailStore();
        s.best();
        Edges.posts(s, "v<w,w<v");
        return s;
    }

    public static void main(String[] args) throws Exception {
        e = new Edges(args[0]);
        e.promise(Edges.TERMS);
        limits();
        otherwise();
        trails();
        solutions();
        rows();
        refusals();
        e.end(Edges.TERMS, Edges.TERMS);
    }
}
