import java.util.List;

/** The edges that promises 17 to 23 name: constraints, spreading, levels. */
public final class EdgeLevelsTest {
    private static Edges e;

    private static void trail(String what, TrailStore s, int d, long... want) {
        e.due(what + ": trail(" + d + ")", want.length, s.trail(d));
        e.dueRow(what + ": trail(" + d + ")", s, want);
    }

    private static void dueConstraint(TrailStore s, int i, int sort, int x, int y, int d) {
        e.due("sort of " + i, sort, s.constraint(i, 0));
        e.due("x of " + i, x, s.constraint(i, 1));
        e.due("y of " + i, y, s.constraint(i, 2));
        e.due("d of " + i, d, s.constraint(i, 3));
    }

    /** Behind these signs, which alone tell so many constraints (-1: they end too early), these signs alone can stand. */
    private static void nextSign(String signs, int tells, String allowed) {
        int p = signs.length();
        e.due("posts() of " + signs, tells < 0 ? -1 - p : tells, Edges.posts(new TrailStore(), signs));
        for (char sign = 0; sign < 256; sign++) {
            int got = Edges.posts(new TrailStore(), signs + sign);
            boolean stands = allowed.indexOf(sign) >= 0;
            e.due("the sign " + (int) sign + " behind " + signs, stands, got != -1 - p);
            if (stands && got < 0) {
                e.due("its end behind " + signs + sign, -2 - p, got);
            }
        }
    }

    private static void promise17() {
        e.promise(17);
        e.says("THE TEXT tells CONSTRAINTS (an empty one: none) with , between, each:");
        TrailStore s = new TrailStore();
        s.opens();
        e.due("an empty text", 0, s.posts());
        e.due("count(3)", 0, s.count(3));
        trail("an empty text", s, 1);
        e.due("an empty text behind 8", 0, Edges.posts(Edges.full(), ""));

        e.says("v .. z, one of < = #, another one of v .. z, and, if wanted, + or - and a digit (sorts 0, 1, 2; d 0 without), "
                + "or ! and two to five different ones of v .. z (sort 3): they come behind those that are there: how many came.");
        e.due("one", 1, Edges.posts(s, "z<v-9"));
        e.due("one of two", 1, Edges.posts(s, "!zv"));
        e.due("three", 3, Edges.posts(s, "v=z+9,w#x,!vwxyz"));
        e.due("two more", 2, Edges.posts(s, "y<x+0,x=y-0"));
        e.due("an eighth", 1, Edges.posts(s, "!yxw"));
        dueConstraint(s, 0, 0, 4, 0, -9);
        dueConstraint(s, 1, 3, 17, 0, 0);
        dueConstraint(s, 2, 1, 0, 4, 9);
        dueConstraint(s, 3, 2, 1, 2, 0);
        dueConstraint(s, 4, 3, 31, 0, 0);
        dueConstraint(s, 5, 0, 3, 2, 0);
        dueConstraint(s, 6, 1, 2, 3, 0);
        dueConstraint(s, 7, 3, 14, 0, 0);
        trail("constraints stand once", s, 1, 30);
        e.due("eight at once", 8, Edges.posts(new TrailStore(), "v<w,w=x,x#y,y<z+1,!vwxyz,!vw,z=v-9,w#z+9"));
        e.due("the same once more", 2, Edges.posts(new TrailStore(), "v<w,v<w"));

        e.says("-1 - p: the sign at p can't stand there (its end, if it ends too early);");
        nextSign("", 0, "vwxyz!");
        nextSign("v", -1, "<=#");
        nextSign("z", -1, "<=#");
        nextSign("v<", -1, "wxyz");
        nextSign("x=", -1, "vwyz");
        nextSign("z#", -1, "vwxy");
        nextSign("v<w", 1, "+-,");
        nextSign("v<w+", -1, "0123456789");
        nextSign("z#v-", -1, "0123456789");
        nextSign("v<w+9", 1, ",");
        nextSign("z=v-0", 1, ",");
        nextSign("v<w,", -1, "vwxyz!");
        nextSign("!", -1, "vwxyz");
        nextSign("!v", -1, "wxyz");
        nextSign("!zv", 1, "wxy,");
        nextSign("!wyx", 1, "vz,");
        nextSign("!vwxy", 1, "z,");
        nextSign("!vwxyz", 1, ",");
        nextSign("!zy,", -1, "vwxyz!");
        nextSign("!zy,v<w+1,!", -1, "vwxyz");
        nextSign("!zy,v", -1, "<=#");
        nextSign("v<w,x=", -1, "vwyz");
        nextSign("!zy,w#x+1,v<", -1, "wxyz");
        nextSign("v<w,!zy,y=z-", -1, "0123456789");
        nextSign("v<w,!z", -1, "vwxy");
        TrailStore f = Edges.rich();
        e.due("a fault behind what is none", -1 - 4, Edges.posts(f, "v<w,"));
        TrailStore same = Edges.rich();
        same.end(0);
        e.same("nothing came, and THE TEXT is empty", f, same);
        String eighty = "v<w,".repeat(19) + "!xyz";
        e.due("80 signs that end too early", -1 - 80, Edges.posts(new TrailStore(), "v<w,".repeat(19) + "v<w+"));
        e.due("the last of 80 signs", -1 - 79, Edges.posts(new TrailStore(), eighty.substring(0, 79) + "x"));

        e.says("-100: there would be more than 8.");
        e.due("nine at once", -100, Edges.posts(new TrailStore(), "v<w,v<w,v<w,v<w,v<w,v<w,v<w,v<w,v<w"));
        e.due("twenty at once", -100, Edges.posts(new TrailStore(), eighty));
        TrailStore t = Edges.full();
        e.due("one behind 8", -100, Edges.posts(t, "v<w"));
        TrailStore full = Edges.full();
        full.end(0);
        e.same("none came, and THE TEXT is empty", t, full);
        TrailStore six = Edges.with("v<w,v<w,v<w,v<w,v<w,v<w");
        e.due("three behind 6: none of them comes", -100, Edges.posts(six, "v<w,v<w,v<w"));
        e.due("count(3)", 6, six.count(3));
        e.due("two behind 6", 2, Edges.posts(six, "v<w,v<w"));
        six.lifts(7);
        e.due("an eighth, as one went", 1, Edges.posts(six, "!vz"));
        e.due("sort", 3, six.constraint(7, 0));
    }

    private static void promise18() {
        e.promise(18);
        e.says("CONSTRAINT i goes (those behind it are one number lower): how many are left.");
        TrailStore s = Edges.full();
        s.back(0);
        s.opens();
        e.due("the last of 8", 7, s.lifts(7));
        dueConstraint(s, 6, 2, 1, 4, 0);
        e.due("the first", 6, s.lifts(0));
        dueConstraint(s, 0, 0, 1, 2, 0);
        dueConstraint(s, 5, 2, 1, 4, 0);
        e.due("one between", 5, s.lifts(3));
        dueConstraint(s, 2, 2, 3, 4, 0);
        dueConstraint(s, 3, 2, 0, 4, 0);
        dueConstraint(s, 4, 2, 1, 4, 0);
        trail("lifts", s, 1, 30);
        TrailStore one = Edges.with("!vw");
        e.due("the only one", 0, one.lifts(0));
        e.due("count(3)", 0, one.count(3));

        e.says("NONE: none such.");
        e.refused(TrailStore::new, "lifts(0) of none", -1, t -> t.lifts(0));
        for (int i : new int[] {-1, 2, 3, 30, Edges.MAX, Edges.MIN}) {
            e.refused(Edges::rich, "lifts(" + i + ") of two", -1, t -> t.lifts(i));
        }
        e.refused(Edges::full, "lifts(8) of eight", -1, t -> t.lifts(8));
    }

    /** What is left of v and w with one constraint. */
    private static void dueSpread(String constraint, int gone, int v, int w) {
        TrailStore s = Edges.with(constraint);
        e.due("spreads() with " + constraint, gone, s.spreads());
        e.due("values(0) with " + constraint, v, s.values(0));
        e.due("values(1) with " + constraint, w, s.values(1));
    }

    private static void promise19() {
        e.promise(19);
        e.says("It is SPREAD: how many VALUES go.");
        e.due("without constraints", 0, new TrailStore().spreads());
        dueSpread("v<w", 2, 31, 62);
        dueSpread("v<w+1", 0, 63, 63);
        dueSpread("v<w+5", 0, 63, 63);
        dueSpread("v<w+9", 0, 63, 63);
        dueSpread("v<w-4", 10, 1, 32);
        dueSpread("w<v-4", 10, 32, 1);
        dueSpread("v=w", 0, 63, 63);
        dueSpread("v=w+5", 10, 32, 1);
        dueSpread("v=w-5", 10, 1, 32);
        dueSpread("v=w+1", 2, 62, 31);
        dueSpread("v#w", 0, 63, 63);
        dueSpread("v#w+9", 0, 63, 63);
        dueSpread("!vw", 0, 63, 63);
        spreadOfUnequal();
        spreadOfSets();
        TrailStore chain = Edges.with("y<z,x<y,w<x,v<w");
        chain.opens();
        e.due("and on, till none goes", 20, chain.spreads());
        for (int x = 0; x < 5; x++) {
            e.due("values(" + x + ")", 3L << x, chain.values(x));
        }
        trail("by one act: by number", chain, 1, 10, 11, 12, 13, 14);
        chain.opens();
        e.due("once more", 0, chain.spreads());
        trail("once more", chain, 2);
        // two that are not equal have two values to share, which no single constraint sees
        TrailStore blind = Edges.with("v#w,w#x,v#x");
        Edges.limited(blind, 0, 1);
        e.due("each constraint alone can hold", 0, blind.spreads());

        e.says("-2: it FAILS (nothing changes).");
        for (String constraint : new String[] {"v<w-5", "v<w-9", "v=w+6", "v=w-6", "v=w+9", "v=w-9", "w<v,v<w", "w<v-2,v<w-2"}) {
            e.refused(() -> Edges.opened(Edges.with(constraint), 2), "spreads() with " + constraint, -2, t -> t.spreads());
        }
        e.refused(EdgeLevelsTest::failsLate, "what would go ahead of the failure", -2, t -> t.spreads());
        e.refused(() -> Edges.limited(Edges.with("!vwx"), 0, 1), "three of two", -2, t -> t.spreads());
        e.refused(() -> Edges.limited(Edges.with("!vwxyz"), 1, 4), "five of four", -2, t -> t.spreads());
        e.refused(() -> Edges.limited(Edges.with("v#w"), 3, 3), "two of one", -2, t -> t.spreads());
    }

    private static TrailStore failsLate() {
        TrailStore s = Edges.with("v<w,x=y+4,!yz,z<y");
        s.opens();
        s.fixes(3, 0);
        s.many();
        return s;
    }

    private static void spreadOfUnequal() {
        TrailStore s = Edges.with("v#w+2,x#y-2");
        s.fixes(1, 3);
        s.fixes(2, 0);
        e.due("one value takes one from the other", 2, s.spreads());
        e.due("values(0)", 63 & ~32, s.values(0));
        e.due("values(3)", 63 & ~4, s.values(3));
        TrailStore t = Edges.with("v#w+2");
        t.fixes(1, 4);
        e.due("a value that is none", 0, t.spreads());
        TrailStore u = Edges.with("v#w-1");
        u.limits(1, 2, 3);
        e.due("two values take none", 0, u.spreads());
    }

    private static void spreadOfSets() {
        TrailStore s = Edges.with("!vxz");
        s.fixes(2, 5);
        e.due("one takes one from two", 2, s.spreads());
        e.due("values(0)", 31, s.values(0));
        e.due("values(4)", 31, s.values(4));
        e.due("values(1), which it has not", 63, s.values(1));
        TrailStore t = Edges.with("!vwxyz");
        t.limits(0, 0, 1);
        t.limits(4, 0, 1);
        e.due("two of two take two from three", 6, t.spreads());
        e.due("values(2)", 60, t.values(2));
        e.due("values(4)", 3, t.values(4));
        TrailStore u = Edges.with("!vwxy");
        u.removes(0, 0);
        u.limits(0, 0, 2);
        u.removes(1, 1);
        u.limits(1, 0, 2);
        u.limits(2, 0, 1);
        e.due("three of three take three from one", 3, u.spreads());
        e.due("values(3)", 56, u.values(3));
        TrailStore w = Edges.with("!vwxyz");
        Edges.limited(w, 0, 4);
        w.removes(0, 4);
        w.removes(1, 4);
        w.removes(3, 4);
        w.removes(4, 4);
        e.due("one alone can have it, as all five are needed", 4, w.spreads());
        e.due("values(2)", 16, w.values(2));
    }

    private static void promise20() {
        e.promise(20);
        e.says("A LEVEL is opened: DEPTH.");
        TrailStore s = new TrailStore();
        for (int d = 1; d <= 9; d++) {
            e.due("opens()", d, s.opens());
            e.due("count(0)", d, s.count(0));
            e.due("trail(" + d + ")", 0, s.trail(d));
        }
        s.closes();
        e.due("one closed, one opened", 9, s.opens());
        s.commits();
        e.due("one committed, one opened", 9, s.opens());
        s.back(0);
        e.due("all closed, one opened", 1, s.opens());

        e.says("-2: 9 are open.");
        e.refused(Edges::full, "opens()", -2, t -> t.opens());
        e.refused(() -> Edges.opened(new TrailStore(), 9), "opens()", -2, t -> t.opens());
    }

    private static void promise21() {
        e.promise(21);
        e.says("The latest LEVEL is closed: DEPTH; the ROW: how many THINGS are OTHERWISE than ahead of it.");
        TrailStore s = Edges.rich();
        e.due("the second of two", 1, s.closes());
        // cell 0, key 8 and the constraints are as they were
        e.dueRow("the second of two", s, 3);
        e.due("cell(0)", -7, s.cell(0));
        e.due("count(2)", 1, s.count(2));
        e.due("count(3)", 3, s.count(3));
        e.due("THE TEXT stays", 5, s.count(8));
        trail("the first one's trail stays", s, 1, 5, 28, 10);
        e.due("the first", 0, s.closes());
        e.dueRow("the first", s, 3);
        e.due("PAIRS in the order they had", 8, s.pair(0, 0));
        e.due("PAIRS in the order they had", 3, s.pair(1, 0));
        e.due("values(0)", 63, s.values(0));
        s.opens();
        e.due("one in which nothing was done", 0, s.closes());
        e.dueRow("one in which nothing was done", s, 0);
        s.opens();
        s.sets(0, 1);
        s.sets(0, -7);
        s.drops(8);
        s.puts(8, 5);
        e.due("the place of a KEY is aside", 3, s.pair(0, 0));
        e.due("all was as it was again", 0, s.closes());
        e.dueRow("all was as it was again", s, 0);
        e.due("PAIRS in the order they had", 8, s.pair(0, 0));
        allThingsBack();

        e.says("-2: none is open.");
        e.refused(TrailStore::new, "closes()", -2, t -> t.closes());
        e.refused(EdgeLevelsTest::richWithoutLevels, "closes()", -2, t -> t.closes());
    }

    /** Each of the 22 THINGS, but two keys for which there is no room, is otherwise and comes back. */
    private static void allThingsBack() {
        TrailStore s = new TrailStore();
        s.opens();
        s.sheet(2, 6, 1, 1);
        for (int x = 0; x < 5; x++) {
            s.removes(x, x);
        }
        for (int key = 0; key < 8; key++) {
            s.puts(key, 0);
        }
        Edges.posts(s, "v<w");
        s.drops(0);
        s.puts(9, 0);
        s.drops(1);
        s.puts(8, 0);
        e.due("all 22 stand on the trail", 22, s.trail(1));
        e.due("closes()", 0, s.closes());
        e.dueRow("6, 5, 8 and 1", s, 20);
        e.due("count(1)", 30, s.count(1));
        e.due("count(2)", 0, s.count(2));
        e.due("count(3)", 0, s.count(3));
        e.due("count(4)", 10000, s.count(4));
    }

    private static TrailStore richWithoutLevels() {
        TrailStore s = Edges.rich();
        s.back(0);
        s.many();
        return s;
    }

    private static TrailStore stairs() {
        TrailStore s = new TrailStore();
        for (int d = 1; d <= 9; d++) {
            s.opens();
            s.sets(d % 6, d);
        }
        return s;
    }

    private static void promise22() {
        e.promise(22);
        e.says("LEVELS are closed till DEPTH is n (0 .. DEPTH): how many are; the ROW: as closes().");
        for (int n = 0; n <= 9; n++) {
            TrailStore s = stairs();
            e.due("back(" + n + ")", 9 - n, s.back(n));
            e.due("count(0)", n, s.count(0));
            e.dueRow("back(" + n + ")", s, Math.min(6, 9 - n));
            int[] want = new int[6];
            for (int d = 1; d <= n; d++) {
                want[d % 6] = d;
            }
            for (int i = 0; i < 6; i++) {
                e.due("cell(" + i + ") behind back(" + n + ")", want[i], s.cell(i));
            }
        }
        TrailStore t = new TrailStore();
        t.many();
        e.due("back(0) of none", 0, t.back(0));
        e.dueRow("back(0) of none", t, 0);
        TrailStore u = Edges.rich();
        e.due("none is closed", 0, u.back(2));
        e.dueRow("none is closed", u, 0);
        e.due("cell(0)", -8, u.cell(0));
        TrailStore v = new TrailStore();
        v.opens();
        v.sets(0, 1);
        v.opens();
        v.sets(0, 0);
        v.sets(1, 1);
        e.due("back(0)", 2, v.back(0));
        e.dueRow("ahead of all and behind all", v, 1);

        e.says("NONE: another n.");
        for (int n : new int[] {-1, 3, 9, Edges.MAX, Edges.MIN}) {
            e.refused(Edges::rich, "back(" + n + ") of two", -1, s -> s.back(n));
        }
        e.refused(Edges::full, "back(10) of nine", -1, s -> s.back(10));
        e.refused(TrailStore::new, "back(1) of none", -1, s -> s.back(1));
        e.refused(TrailStore::new, "back(-1) of none", -1, s -> s.back(-1));
    }

    private static void promise23() {
        e.promise(23);
        e.says("The latest LEVEL is committed: THINGS stay as they are; it is no more;");
        TrailStore s = Edges.rich();
        List<Integer> ahead = Edges.things(s);
        e.due("commits()", 1, s.commits());
        e.due("THINGS stay", true, ahead.equals(Edges.things(s)));
        e.due("count(0)", 1, s.count(0));
        e.due("trail(2)", -1, s.trail(2));
        e.due("was(2, 0)", -1, s.was(2, 0));

        e.says("THINGS of its TRAIL that are not on the TRAIL of the LEVEL below, if there is one, come behind that, in their order: DEPTH;");
        trail("5, 28, 10, then 0, 30 without 28", s, 1, 5, 28, 10, 0, 30);
        s.closes();
        e.due("closing the one below undoes both", -7, s.cell(0));
        e.due("closing the one below undoes both", 3, s.count(3));
        TrailStore t = new TrailStore();
        t.opens();
        t.opens();
        t.sets(5, 1);
        t.sets(0, 1);
        t.opens();
        t.sets(3, 1);
        t.sets(0, 2);
        t.sets(1, 1);
        t.commits();
        trail("behind those that are there", t, 2, 5, 0, 3, 1);
        trail("not two below", t, 1);
        t.commits();
        trail("to an empty one", t, 1, 5, 0, 3, 1);

        e.says("the ROW: how many THINGS are on that TRAIL then, how many of the committed one's were on it (0, 0, if there is no LEVEL below).");
        TrailStore u = Edges.rich();
        u.commits();
        e.dueRow("one was on it", u, 5, 1);
        e.due("the first LEVEL", 0, u.commits());
        e.dueRow("the first LEVEL", u, 0, 0);
        e.due("count(5)", 0, u.count(5));
        e.due("cell(0)", -8, u.cell(0));
        TrailStore v = new TrailStore();
        Edges.opened(v, 2);
        e.due("empty ones", 1, v.commits());
        e.dueRow("empty ones", v, 0, 0);
        v.sets(2, 1);
        v.opens();
        e.due("an empty one above", 1, v.commits());
        e.dueRow("an empty one above", v, 1, 0);
        v.opens();
        v.sets(2, 2);
        v.sets(2, 1);
        e.due("all were on it", 1, v.commits());
        e.dueRow("all were on it", v, 1, 1);
        e.due("the ninth", 8, Edges.full().commits());

        e.says("-2: none is open.");
        e.refused(TrailStore::new, "commits()", -2, w -> w.commits());
        e.refused(EdgeLevelsTest::richWithoutLevels, "commits()", -2, w -> w.commits());
    }

    public static void main(String[] args) throws Exception {
        e = new Edges(args[0]);
        promise17();
        promise18();
        promise19();
        promise20();
        promise21();
        promise22();
        promise23();
        e.end(17, 23);
    }
}
