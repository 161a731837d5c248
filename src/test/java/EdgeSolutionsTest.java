import java.util.ArrayList;
import java.util.List;

/** The edges that promises 30 to 35 name: solutions, the search, the best, shadows. */
public final class EdgeSolutionsTest {
    private static Edges e;

    private static TrailStore fixed(String constraints, int... values) {
        TrailStore s = Edges.with(constraints);
        for (int x = 0; x < 5; x++) {
            s.fixes(x, values[x]);
        }
        return s;
    }

    private static void promise30() {
        e.promise(30);
        e.says("How many SOLUTIONS there are: how many; the ROW: the first one (nothing without).");
        TrailStore all = new TrailStore();
        e.due("all rows", 7776, all.many());
        e.dueRow("all rows", all, 0, 0, 0, 0, 0);
        TrailStore one = fixed("v<w,!vwxyz", 1, 5, 0, 2, 3);
        e.due("one", 1, one.many());
        e.dueRow("one", one, 1, 5, 0, 2, 3);
        TrailStore broken = fixed("v<w,!vwxyz", 1, 5, 0, 2, 2);
        broken.probes();
        e.due("none", 0, broken.many());
        e.dueRow("none", broken);
        e.question(Edges::hopeless, "none", 0, s -> s.many());
        e.question(Edges::hiddenHopeless, "none, which no spread sees", 0, s -> s.many());
        // v 2, w above it, z not 4: 3 times 6 times the pairs y, z without y = z + 2
        e.question(Edges::rich, "many", 3 * 6 * (30 - 4), s -> s.many());
        int[] ds = {0, 1, 5, 6, 9};
        for (int i = 0; i < ds.length; i++) {
            // of the 36 pairs x, y those with x < y + d, and x = y + d, and x not y + d
            int less = 0;
            int equal = 0;
            for (int x = 0; x < 6; x++) {
                for (int y = 0; y < 6; y++) {
                    less += x < y + ds[i] ? 1 : 0;
                    equal += x == y + ds[i] ? 1 : 0;
                }
            }
            e.due("v<w+" + ds[i], less * 216, Edges.with("v<w+" + ds[i]).many());
            e.due("w=v+" + ds[i], equal * 216, Edges.with("w=v+" + ds[i]).many());
            e.due("y#z+" + ds[i], (36 - equal) * 216, Edges.with("y#z+" + ds[i]).many());
            e.due("v<w-" + ds[i], (ds[i] >= 6 ? 0 : (5 - ds[i]) * (6 - ds[i]) / 2) * 216, Edges.with("v<w-" + ds[i]).many());
        }
        e.due("five different of six", 720, Edges.with("!vwxyz").many());
        e.due("two different of six", 30 * 216, Edges.with("!vz").many());
        e.due("five different of five", 120, Edges.limited(Edges.with("!vwxyz"), 0, 4).many());
        e.due("five different of four", 0, Edges.limited(Edges.with("!vwxyz"), 0, 3).many());
    }

    private static void promise31() {
        e.promise(31);
        e.says("SOLUTION k (1, 2, ..), in order: 0; the ROW: it.");
        TrailStore s = new TrailStore();
        e.due("the first", 0, s.nth(1));
        e.dueRow("the first", s, 0, 0, 0, 0, 0);
        e.due("the sixth", 0, s.nth(6));
        e.dueRow("the sixth", s, 0, 0, 0, 0, 5);
        e.due("the seventh", 0, s.nth(7));
        e.dueRow("the seventh", s, 0, 0, 0, 1, 0);
        e.due("behind a sixth of all", 0, s.nth(1297));
        e.dueRow("behind a sixth of all", s, 1, 0, 0, 0, 0);
        e.due("the last", 0, s.nth(7776));
        e.dueRow("the last", s, 5, 5, 5, 5, 5);
        TrailStore t = Edges.with("v<w,w<x,x<y,y<z");
        int[][] rows = {{0, 1, 2, 3, 4}, {0, 1, 2, 3, 5}, {0, 1, 2, 4, 5}, {0, 1, 3, 4, 5}, {0, 2, 3, 4, 5}, {1, 2, 3, 4, 5}};
        for (int k = 1; k <= 6; k++) {
            int[] r = rows[k - 1];
            e.due("nth(" + k + ")", 0, t.nth(k));
            e.dueRow("nth(" + k + ")", t, r[0], r[1], r[2], r[3], r[4]);
        }
        e.question(Edges::rich, "nth(1)", 0, u -> u.nth(1));

        e.says("-2: there are fewer;");
        e.refused(() -> Edges.opened(new TrailStore(), 1), "nth(7777)", -2, u -> u.nth(7777));
        e.refused(Edges::rich, "one too many", -2, u -> u.nth(469));
        e.due("the last", 0, Edges.rich().nth(468));
        e.refused(Edges::rich, "the greatest int", -2, u -> u.nth(Edges.MAX));
        e.refused(Edges::hopeless, "the first of none", -2, u -> u.nth(1));
        e.refused(Edges::hiddenHopeless, "the first of none", -2, u -> u.nth(1));

        e.says("NONE: k below 1.");
        for (int k : new int[] {0, -1, Edges.MIN}) {
            e.refused(Edges::rich, "nth(" + k + ")", -1, u -> u.nth(k));
            e.refused(Edges::hopeless, "nth(" + k + ") of none", -1, u -> u.nth(k));
        }
    }

    private static void promise32() {
        e.promise(32);
        e.says("VARIABLES that have the same VALUE in all SOLUTIONS (bits): they; the ROW: these VALUES, by VARIABLE.");
        TrailStore s = new TrailStore();
        s.many();
        e.due("none", 0, s.always());
        e.dueRow("none", s);
        TrailStore one = fixed("v<w", 0, 5, 4, 3, 2);
        e.due("all", 31, one.always());
        e.dueRow("all", one, 0, 5, 4, 3, 2);
        // v is 0 in no spread's eyes, but in all solutions: w and x share 1 and 2
        TrailStore hidden = Edges.with("v#w,w#x,v#x");
        hidden.limits(1, 1, 2);
        hidden.limits(2, 1, 2);
        hidden.limits(0, 0, 2);
        e.due("what no spread sees", 0, hidden.spreads());
        e.due("v alone", 1, hidden.always());
        e.dueRow("v alone", hidden, 0);
        TrailStore last = Edges.with("z=y+5,x#w");
        e.due("the last two", 24, last.always());
        e.dueRow("the last two", last, 0, 5);
        last.fixes(2, 0);
        e.due("once more, as x is fixed", 28, last.always());
        e.dueRow("once more, as x is fixed", last, 0, 0, 5);
        e.question(Edges::rich, "always", 1, u -> u.always());

        e.says("-2: there is no SOLUTION.");
        e.refused(Edges::hopeless, "always()", -2, u -> u.always());
        e.refused(Edges::hiddenHopeless, "always()", -2, u -> u.always());
        e.refused(() -> fixed("v=w", 0, 1, 0, 0, 0), "always() of fixed ones", -2, u -> u.always());
    }

    private static void search(String what, TrailStore s, int way, int answer, long... row) {
        e.due(what + " by way " + way, answer, s.search(way));
        e.dueRow(what + " by way " + way, s, row);
    }

    private static TrailStore two(String constraints, int y, int z) {
        TrailStore s = Edges.with(constraints);
        for (int x = 0; x < 3; x++) {
            s.fixes(x, 0);
        }
        s.limits(3, 0, y);
        s.limits(4, 0, z);
        return s;
    }

    private static void searchChooses() {
        e.says("A search, from what is now: it is SPREAD; if that does not FAIL, and a VARIABLE has more than one VALUE, one such is taken:");
        for (int way = 0; way < 3; way++) {
            search("all are fixed", fixed("v<w", 0, 5, 4, 3, 2), way, 1, 0, 0, 0, 0, 0, 5, 4, 3, 2);
            search("the spread fixes all", two("y=z+5", 5, 5), way, 1, 0, 0, 0, 2, 0, 0, 0, 5, 0);
            search("the first SPREAD FAILS", Edges.hopeless(), way, 0, 0, 1, 0, 0);
            search("all are fixed, and it FAILS", fixed("v=w", 0, 1, 0, 0, 0), way, 0, 0, 1, 0, 0);
            search("without constraints", new TrailStore(), way, 1, 5, 0, 5, 5, 0, 0, 0, 0, 0);
            search("the first SPREAD changes two", Edges.with("v<w"), way, 1, 5, 0, 5, 7, 0, 1, 0, 0, 0);
            int by = way;
            e.question(Edges::rich, "it changes nothing", 1, s -> s.search(by));
            e.question(Edges::hiddenHopeless, "it changes nothing", 0, s -> s.search(by));
        }
        e.says("by way 0: the least; 1: one of the fewest VALUES (of as many the least); 2: one that is in the most CONSTRAINTS (of as many the least);");
        // the one that is taken first has 0, so that the other one has 1
        search("the least", two("y#z", 2, 1), 0, 1, 1, 0, 1, 2, 0, 0, 0, 0, 1);
        search("z has fewer", two("y#z", 2, 1), 1, 1, 2, 0, 2, 3, 0, 0, 0, 1, 0);
        search("as many", two("y#z", 1, 1), 1, 1, 1, 0, 1, 2, 0, 0, 0, 0, 1);
        search("y has fewer", two("y#z", 1, 2), 1, 1, 2, 0, 2, 2 + 1, 0, 0, 0, 0, 1);
        search("z is in more", two("y#z,z#x+9", 1, 1), 2, 1, 1, 0, 1, 2, 0, 0, 0, 1, 0);
        search("z is in more, as a set", two("y#z,!zx", 5, 5), 2, 1, 2, 0, 2, 1 + 2 + 1, 0, 0, 0, 0, 1);
        search("z is in more, twice the same", two("y#z,z<x+9,z<x+9,y<x+9", 1, 1), 2, 1, 1, 0, 1, 2, 0, 0, 0, 1, 0);
        search("z is in more, as y of it", two("y#z,x<z+9", 1, 1), 2, 1, 1, 0, 1, 2, 0, 0, 0, 1, 0);
        search("as many", two("y#z,z<x+9,y<x+9", 1, 1), 2, 1, 1, 0, 1, 2, 0, 0, 0, 0, 1);
        search("the ones that are fixed are in more", two("v#w+9,v#x+9,y#z,z#v+9", 1, 1), 2, 1, 1, 0, 1, 2, 0, 0, 0, 1, 0);
        waysOfMost();
        // w and z are in none: the least of them comes first, behind those that are
        TrailStore t = Edges.with("x#y");
        t.fixes(0, 0);
        search("those in none at last", t, 2, 1, 4, 0, 4, 5, 0, 0, 0, 1, 0);
    }

    /** v and w are 0 or 1, the others are fixed. */
    private static TrailStore free(String constraints) {
        return masked(constraints, 3, 3, 8, 16, 32);
    }

    /** w and y are 0 or 1, the others are fixed. */
    private static TrailStore between(String constraints) {
        return masked(constraints, 32, 3, 16, 3, 8);
    }

    /** By way 2 the first, the last, those of a set and of eight count, and one that went does not. */
    private static void waysOfMost() {
        search("the first CONSTRAINT counts", two("z#x+9,y#z", 1, 1), 2, 1, 1, 0, 1, 2, 0, 0, 0, 1, 0);
        search("the least of a set is in it", free("v#w,!wxy"), 2, 1, 1, 0, 1, 2, 1, 0, 3, 4, 5);
        search("one amid a set is in it", free("v#w,!vw,!wxyz,w#z+9"), 2, 1, 1, 0, 1, 2, 1, 0, 3, 4, 5);
        search("one above a set is not in it", between("w#y,!vx"), 2, 1, 1, 0, 1, 2, 5, 0, 4, 1, 3);
        search("one below a set is not in it", free("v#w,!xyz,v#z+9"), 2, 1, 1, 0, 1, 2, 0, 1, 3, 4, 5);
        search("one between those of a set is not in it", between("y#w,!vxz"), 2, 1, 1, 0, 1, 2, 5, 0, 4, 1, 3);
        TrailStore not = two("y#z,!vw+", 1, 1);
        search("a fault brings none", not, 2, 1, 2, 0, 2, 2, 0, 0, 0, 0, 0);
        TrailStore gone = two("y#z,z#x+9", 1, 1);
        gone.lifts(1);
        search("one that went does not count", gone, 2, 1, 1, 0, 1, 2, 0, 0, 0, 0, 1);
        search("eight of them", two("y#z,z<x+9,z<x+9,z<x+9,z<x+9,y<x+9,y<x+9,y<x+9", 1, 1), 2, 1, 1, 0, 1, 2, 0, 0, 0, 1, 0);
        search("the eighth counts", two("y#z,y<x+9,y<x+9,z<x+9,z<x+9,v<w+9,v<w+9,z<x+9", 1, 1), 2, 1, 1, 0, 1, 2, 0, 0, 0, 1, 0);
    }

    private static TrailStore clash(int v, int yMask) {
        TrailStore s = Edges.with("y#z,y#z+1,y#z-1");
        s.limits(0, 0, v);
        s.fixes(1, 0);
        s.fixes(2, 0);
        for (int value = 0; value < 6; value++) {
            if ((yMask >>> value & 1) == 0) {
                s.removes(3, value);
            }
        }
        s.limits(4, 0, 1);
        return s;
    }

    private static void searchWalks() {
        e.says("for its VALUES (those it has now), rising, each a NODE: all other ones of it go, it is SPREAD, and, if that does not FAIL, "
                + "on likewise; where it FAILS, all is as ahead of the NODE, and the next VALUE is tried (when there is none, "
                + "all is as ahead of the NODE around it, which has its next VALUE).");
        search("two fail, the third does not", clash(0, 35), 0, 1, 4, 2, 2, 4, 0, 0, 0, 5, 0);
        search("all fail, and those around them go on", clash(1, 3), 0, 0, 6, 4, 2, 6);
        search("three around", clash(2, 3), 0, 0, 9, 6, 2, 9);
        search("fewest first: the last two fail at once", clash(5, 3), 1, 0, 2, 2, 1, 2);
        search("most constraints first", clash(5, 3), 2, 0, 2, 2, 1, 2);
        // v 0 takes 5 from y, and 0 and 1 clash with z; v 1 leaves 5, too, as all is as ahead of the node around it
        TrailStore s = clash(1, 35);
        Edges.posts(s, "y<v+5");
        search("the next value of the one around", s, 0, 1, 8, 4, 3, 2 + 1 + 1 + 1 + 1 + 1 + 1 + 1, 1, 0, 0, 5, 0);
    }

    private static TrailStore masked(String constraints, int... masks) {
        TrailStore s = Edges.with(constraints);
        for (int x = 0; x < 5; x++) {
            for (int v = 0; v < 6; v++) {
                if ((masks[x] >>> v & 1) == 0) {
                    s.removes(x, v);
                }
            }
        }
        return s;
    }

    private static void searchEnds() {
        e.says("It ends when each VARIABLE has one VALUE, or nothing is left to try, or, ahead of what would be NODE 201: "
                + "1: the first, 0: the second, 2: the third;");
        // 5 nodes of v, 3 of w in each, 4 of x in each, 2 of y in each, which fail
        String clash = "y#z,y#z+1,y#z-1,y#z+2,y#z-2";
        search("nothing is left behind node 200", masked(clash, 31, 7, 60, 12, 28), 0, 0, 200, 120, 4, 200);
        // 6 of v, 3 or 2 of w (15 in all), 4 of x in each, 2 of y in each: 201; the first SPREAD takes two of z
        String more = "y#z,y#z+1,y#z-1,y=z,v#w+3";
        search("node 201 would be the last", masked(more, 63, 7, 60, 6, 30), 0, 2, 200, 119, 4, 1 + 3 + 3 * 2 + 15 + 60 + 119);
        search("a solution at node 200", masked("y#z,y#z+1,y#z-1,y<v,y#v,w#x-3,z#x-5", 63, 63, 63, 11, 3), 0, 1,
                200, 125, 5, 210, 4, 0, 0, 3, 0);
        search("a solution at node 201", masked("y#z,y#z+1,y#z-1,y<v-1,x#z-5,z#y-3", 63, 63, 55, 27, 3), 0, 2, 200, 123, 4, 204);
        search("far more", masked(clash, 63, 63, 63, 12, 28), 0, 2, 200, 124, 4, 200);

        e.says("the ROW: how many NODES, how often it FAILED (the first SPREAD, too), how many NODES were in one another at most "
                + "(one that FAILS, too), how many THINGS were CHANGED, NODE by NODE (the first SPREAD, too; of a NODE that FAILS "
                + "its VARIABLE alone; of a first SPREAD that FAILS none), then, if 1, VALUES by VARIABLE.");
        search("the first SPREAD fails: none was CHANGED", Edges.with("v<w,w<v"), 0, 0, 0, 1, 0, 0);
        // node 1: v 0 leaves 1 alone to w and x, which differ: its VARIABLE alone
        search("a node that fails", Edges.hiddenHopeless(), 0, 0, 2, 2, 1, 2);
        // v, w, x, y, z: 0 takes one of four, 1 of three, 2 of two, 3 of one
        search("a node changes all that it takes from", Edges.with("!vwxyz"), 0, 1, 5, 0, 5, 5 + 4 + 3 + 2 + 1, 0, 1, 2, 3, 4);
        search("deepest, as they fail", clash(1, 3), 0, 0, 6, 4, 2, 6);
        TrailStore s = Edges.with("v<w,w<x,x<y,y<z");
        search("the first SPREAD changes five", s, 0, 1, 5, 0, 5, 5 + 5, 0, 1, 2, 3, 4);

        TrailStore twice = clash(2, 3);
        search("numbers of this search", twice, 0, 0, 9, 6, 2, 9);
        search("numbers of this search, once more", twice, 0, 0, 9, 6, 2, 9);
        search("numbers of this search, another way", twice, 1, 0, 2, 2, 1, 2);
        twice.fixes(3, 0);
        twice.fixes(4, 0);
        search("numbers of this search, whose first SPREAD FAILS", twice, 1, 0, 0, 1, 0, 0);

        e.says("NONE: another way.");
        for (int way : new int[] {-1, 3, 4, Edges.MAX, Edges.MIN}) {
            e.refused(Edges::rich, "search(" + way + ")", -1, t -> t.search(way));
            e.refused(Edges::hopeless, "search(" + way + ")", -1, t -> t.search(way));
        }
    }

    private static void promise34() {
        e.promise(34);
        e.says("How many SOLUTIONS have the greatest WORTH: how many; the ROW: it, then the first of them.");
        TrailStore s = new TrailStore();
        e.due("all as good", 7776, s.best());
        e.dueRow("all as good", s, 0, 0, 0, 0, 0, 0);
        s.sheet(2, 6, 999, 0);
        e.due("the greatest there is", 1, s.best());
        e.dueRow("the greatest there is", s, 5 * 5 * 999, 5, 5, 5, 5, 5);
        s.sheet(2, 6, -999, 0);
        e.due("the least numbers", 1, s.best());
        e.dueRow("the least numbers", s, 0, 0, 0, 0, 0, 0);
        Edges.limited(s, 5, 5);
        e.due("the least there is", 1, s.best());
        e.dueRow("the least there is", s, -5 * 5 * 999, 5, 5, 5, 5, 5);
        TrailStore t = new TrailStore();
        t.sets(5, 999);
        e.due("CELL 5 is none of them", 7776, t.best());
        t.sets(4, 1);
        e.due("CELL 4 is one of them", 1296, t.best());
        e.dueRow("CELL 4 is one of them", t, 5, 0, 0, 0, 0, 5);
        t.sheet(2, 2, 1, 0);
        t.limits(0, 0, 3);
        t.removes(1, 5);
        Edges.posts(t, "v<w");
        e.due("the first of equal ones", 216, t.best());
        e.dueRow("the first of equal ones", t, 7, 3, 4, 0, 0, 0);
        t.sheet(2, 2, 1, -2);
        e.due("v less w", 4 * 216, t.best());
        e.dueRow("v less w", t, -1, 0, 1, 0, 0, 0);
        TrailStore one = fixed("", 1, 2, 3, 4, 5);
        one.sheet(2, 5, -2, 1);
        e.due("the only one", 1, one.best());
        e.dueRow("the only one", one, -2 - 2 + 0 + 4 + 10, 1, 2, 3, 4, 5);
        e.question(Edges::rich, "best", 3 * 6 * 26, u -> u.best());

        e.says("-2: there is no SOLUTION.");
        e.refused(Edges::hopeless, "best()", -2, u -> u.best());
        e.refused(Edges::hiddenHopeless, "best()", -2, u -> u.best());
    }

    private static void promise35() {
        e.promise(35);
        e.says("How many different rows of VALUES some VARIABLES (bits; one, two or three) have in SOLUTIONS: how many; "
                + "the ROW: the most SOLUTIONS with one such row, that row (of as many the first by order; nothing without).");
        TrailStore s = new TrailStore();
        for (int set = 1; set < 32; set++) {
            int bits = Integer.bitCount(set);
            if (bits <= 3) {
                e.due("shadows(" + set + ")", bits == 1 ? 6 : bits == 2 ? 36 : 216, s.shadows(set));
                List<Long> row = Edges.row(s);
                List<Long> want = new ArrayList<>();
                want.add(bits == 1 ? 1296L : bits == 2 ? 216L : 36L);
                for (int i = 0; i < bits; i++) {
                    want.add(0L);
                }
                e.due("its row", true, row.equals(want));
            }
        }
        TrailStore t = Edges.with("v<w,z=y+4");
        e.due("by VARIABLE", 2, t.shadows(24));
        e.dueRow("by VARIABLE", t, 15 * 6, 0, 4);
        e.due("three", 10, t.shadows(2 + 8 + 16));
        // w 5 has five below it
        e.dueRow("the most, not the first", t, 5 * 6, 5, 0, 4);
        e.due("the greatest VARIABLE", 2, t.shadows(16));
        e.dueRow("the greatest VARIABLE", t, 90, 4);
        e.due("v and x", 30, t.shadows(5));
        e.dueRow("v and x", t, 5 * 2, 0, 0);
        TrailStore five = fixed("", 5, 5, 5, 5, 5);
        e.due("one row", 1, five.shadows(28));
        e.dueRow("one row", five, 1, 5, 5, 5);
        TrailStore none = Edges.hopeless();
        e.due("none", 0, none.shadows(7));
        e.dueRow("none", none);
        e.question(Edges::hopeless, "none", 0, u -> u.shadows(1));
        e.question(Edges::rich, "shadows(2)", 3, u -> u.shadows(2));

        e.says("NONE: other sets.");
        for (int set : new int[] {0, 15, 23, 27, 29, 30, 31, 32, 33, 39, 64, -1, -32, Edges.MAX, Edges.MIN, Edges.MIN + 1}) {
            e.refused(Edges::rich, "shadows(" + set + ")", -1, u -> u.shadows(set));
            e.refused(Edges::hopeless, "shadows(" + set + ")", -1, u -> u.shadows(set));
        }
    }

    public static void main(String[] args) throws Exception {
        e = new Edges(args[0]);
        promise30();
        promise31();
        promise32();
        e.promise(33);
        searchChooses();
        searchWalks();
        searchEnds();
        promise34();
        promise35();
        e.end(30, 35);
    }
}
