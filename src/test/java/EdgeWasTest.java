/** The edges that promises 25 to 29 name: things as they were at a level. */
public final class EdgeWasTest {
    private static final int[] NO_THINGS = {-1, 6, 7, 9, 15, 19, 31, 32, 42, 64, Edges.MAX, Edges.MIN};
    private static final int[] THINGS = {0, 1, 2, 3, 4, 5, 10, 11, 12, 13, 14, 20, 21, 22, 23, 24, 25, 26, 27, 28, 29, 30};
    private static Edges e;

    private static void promise25() {
        e.promise(25);
        e.says("What a THING was when LEVEL d (1 .. DEPTH) was opened: of CELLS 1000 and the number, of VARIABLES the VALUES (bits), "
                + "of KEYS 1000 and the number (0: it was not there), of 30 how many CONSTRAINTS.");
        TrailStore s = new TrailStore();
        s.opens();
        s.sheet(2, 6, -999, 0);
        s.fixes(0, 5);
        s.fixes(4, 0);
        s.puts(0, -999);
        s.puts(9, 999);
        Edges.posts(s, "v<w,v<w,v<w,v<w,v<w,v<w,v<w,v<w");
        s.opens();
        s.sheet(2, 6, 999, 0);
        s.drops(9);
        s.puts(0, 0);
        s.lifts(0);
        s.opens();
        s.sets(0, 3);
        for (int i = 0; i < 6; i++) {
            e.due("was(1, " + i + ")", 1000, s.was(1, i));
            e.due("was(2, " + i + ")", 1, s.was(2, i));
            e.due("was(3, " + i + ")", 1999, s.was(3, i));
        }
        for (int x = 0; x < 5; x++) {
            e.due("was(1, " + (10 + x) + ")", 63, s.was(1, 10 + x));
            e.due("was(2, " + (10 + x) + ")", x == 0 ? 32 : x == 4 ? 1 : 63, s.was(2, 10 + x));
        }
        for (int key = 0; key < 10; key++) {
            e.due("was(1, " + (20 + key) + ")", 0, s.was(1, 20 + key));
            e.due("was(2, " + (20 + key) + ")", key == 0 ? 1 : key == 9 ? 1999 : 0, s.was(2, 20 + key));
            e.due("was(3, " + (20 + key) + ")", key == 0 ? 1000 : 0, s.was(3, 20 + key));
        }
        e.due("was(1, 30)", 0, s.was(1, 30));
        e.due("was(2, 30)", 8, s.was(2, 30));
        e.due("was(3, 30)", 7, s.was(3, 30));
        e.due("was(9, 0)", 1000 + 997, Edges.full().was(9, 0));
        e.due("count(7), as it tells no ROW", 0, s.count(7));
        e.question(Edges::rich, "was(2, 0)", 1000 - 7, t -> t.was(2, 0));
        s.commits();
        e.due("the one below a committed one", 1999 - 1998, s.was(2, 0));

        e.says("NONE: others.");
        for (int thing : NO_THINGS) {
            e.refused(Edges::rich, "was(1, " + thing + ")", -1, t -> t.was(1, thing));
        }
        for (int d : new int[] {0, -1, 3, 10, Edges.MAX, Edges.MIN}) {
            e.refused(Edges::rich, "was(" + d + ", 0) of two", -1, t -> t.was(d, 0));
        }
        e.refused(TrailStore::new, "was(1, 0) of none", -1, t -> t.was(1, 0));
        e.refused(TrailStore::new, "was(0, 0) of none", -1, t -> t.was(0, 0));
        e.refused(Edges::full, "was(10, 0) of nine", -1, t -> t.was(10, 0));
    }

    private static void promise26() {
        e.promise(26);
        e.says("TRAIL of LEVEL d (1 .. DEPTH): how many THINGS; the ROW: they, in order.");
        TrailStore s = Edges.rich();
        e.due("trail(1)", 3, s.trail(1));
        e.dueRow("trail(1)", s, 5, 28, 10);
        e.due("trail(2)", 3, s.trail(2));
        e.dueRow("trail(2)", s, 28, 0, 30);
        s.opens();
        e.due("an empty one", 0, s.trail(3));
        e.dueRow("an empty one", s);
        TrailStore all = allChanged();
        e.due("all THINGS", 22, all.trail(1));
        long[] rising = new long[THINGS.length];
        for (int i = 0; i < THINGS.length; i++) {
            rising[i] = THINGS[THINGS.length - 1 - i];
        }
        e.dueRow("all THINGS, as they came", all, rising);
        e.due("trail(9)", 1, Edges.full().trail(9));
        e.question(Edges::rich, "trail(1)", 3, t -> t.trail(1));

        e.says("NONE: another d.");
        for (int d : new int[] {0, -1, 3, 10, Edges.MAX, Edges.MIN}) {
            e.refused(Edges::rich, "trail(" + d + ") of two", -1, t -> t.trail(d));
        }
        e.refused(TrailStore::new, "trail(1) of none", -1, t -> t.trail(1));
        e.refused(TrailStore::new, "trail(0) of none", -1, t -> t.trail(0));
        e.refused(Edges::full, "trail(10) of nine", -1, t -> t.trail(10));
    }

    /** Each THING was CHANGED, from the last to the first. */
    private static TrailStore allChanged() {
        TrailStore s = new TrailStore();
        s.opens();
        Edges.posts(s, "v<w");
        for (int key = 9; key >= 0; key--) {
            s.puts(key, 0);
            s.drops(key);
        }
        for (int x = 4; x >= 0; x--) {
            s.removes(x, 0);
        }
        for (int i = 5; i >= 0; i--) {
            s.sets(i, 1);
        }
        return s;
    }

    private static void promise27() {
        e.promise(27);
        e.says("LEVELS on whose TRAIL a THING is (bit d: LEVEL d): they; the ROW: how many.");
        TrailStore s = new TrailStore();
        e.due("without LEVELS", 0, s.since(0));
        e.dueRow("without LEVELS", s, 0);
        for (int d = 1; d <= 9; d++) {
            s.opens();
            s.adds(0, 1);
            if (d == 1 || d == 9) {
                s.removes(4, d % 5);
            }
        }
        e.due("all nine", 1022, s.since(0));
        e.dueRow("all nine", s, 9);
        e.due("the first and the ninth", 2 | 512, s.since(14));
        e.dueRow("the first and the ninth", s, 2);
        e.due("none", 0, s.since(1));
        e.dueRow("none", s, 0);
        TrailStore all = allChanged();
        for (int thing : THINGS) {
            e.due("since(" + thing + ")", 2, all.since(thing));
        }
        s.closes();
        e.due("a closed one", 2, s.since(14));
        s.commits();
        e.due("a committed one", 254, s.since(0));
        e.question(Edges::rich, "since(28)", 6, t -> t.since(28));

        e.says("NONE: no such.");
        for (int thing : NO_THINGS) {
            e.refused(Edges::rich, "since(" + thing + ")", -1, t -> t.since(thing));
            e.refused(TrailStore::new, "since(" + thing + ") without LEVELS", -1, t -> t.since(thing));
        }
    }

    private static void promise28() {
        e.promise(28);
        e.says("THINGS that would be OTHERWISE behind back(n): how many; the ROW: they, rising.");
        TrailStore s = Edges.rich();
        e.due("would(2)", 0, s.would(2));
        e.dueRow("would(2)", s);
        e.due("would(1)", 3, s.would(1));
        e.dueRow("would(1)", s, 0, 28, 30);
        e.due("would(0)", 4, s.would(0));
        e.dueRow("would(0): key 8 is there with its number again", s, 0, 5, 10, 30);
        TrailStore none = new TrailStore();
        none.many();
        e.due("would(0) of none", 0, none.would(0));
        e.dueRow("would(0) of none", none);
        TrailStore all = allChanged();
        e.due("what came and went is not OTHERWISE", 12, all.would(0));
        e.dueRow("rising", all, 0, 1, 2, 3, 4, 5, 10, 11, 12, 13, 14, 30);
        TrailStore t = Edges.full();
        e.due("would(9) of nine", 0, t.would(9));
        e.due("would(8) of nine", 1, t.would(8));
        e.dueRow("would(8) of nine", t, 2);
        e.due("would(0) of nine", 6, t.would(0));
        e.question(Edges::rich, "would(0)", 4, u -> u.would(0));
        otherRowsOfConstraints();

        e.says("NONE: another n.");
        for (int n : new int[] {-1, 3, 9, Edges.MAX, Edges.MIN}) {
            e.refused(Edges::rich, "would(" + n + ") of two", -1, u -> u.would(n));
        }
        e.refused(TrailStore::new, "would(1) of none", -1, u -> u.would(1));
        e.refused(TrailStore::new, "would(-1) of none", -1, u -> u.would(-1));
        e.refused(Edges::full, "would(10) of nine", -1, u -> u.would(10));
    }

    /** As many constraints, but another sort, x, y, d, set or order, are another row of them. */
    private static void otherRowsOfConstraints() {
        String was = "v<w+1,!xy";
        String[] others = {"v=w+1,!xy", "v#w+1,!xy", "x<w+1,!xy", "v<x+1,!xy", "v<w-1,!xy", "v<w,!xy", "v<w+1,!xz", "v<w+1,!xyz",
            "!xy,v<w+1", "v<w+1,x#y", "v<w+1"};
        for (String other : others) {
            TrailStore s = Edges.with(was);
            s.opens();
            s.lifts(0);
            s.lifts(0);
            Edges.posts(s, other);
            e.due("would(0) with " + other, 1, s.would(0));
            e.dueRow("would(0) with " + other, s, 30);
        }
        TrailStore same = Edges.with(was);
        same.opens();
        same.lifts(1);
        same.lifts(0);
        Edges.posts(same, was);
        e.due("the same row again", 0, same.would(0));
        e.due("CHANGED all the same", 1, same.trail(1));
        TrailStore swapped = Edges.with("v<w,v<w");
        swapped.opens();
        swapped.lifts(0);
        Edges.posts(swapped, "v<w");
        e.due("two that are the same change places", 0, swapped.would(0));
    }

    private static void promise29() {
        e.promise(29);
        e.says("THINGS that were OTHERWISE when LEVEL e was opened than when LEVEL d was (d, e 1 .. DEPTH): how many; the ROW: they, rising.");
        TrailStore s = Edges.rich();
        e.due("between(1, 2)", 3, s.between(1, 2));
        e.dueRow("between(1, 2)", s, 5, 10, 28);
        e.due("between(2, 1)", 3, s.between(2, 1));
        e.dueRow("between(2, 1)", s, 5, 10, 28);
        e.due("between(2, 2)", 0, s.between(2, 2));
        e.dueRow("between(2, 2)", s);
        s.opens();
        e.due("between(1, 3)", 4, s.between(1, 3));
        e.dueRow("between(1, 3): key 8 was there again", s, 0, 5, 10, 30);
        TrailStore full = Edges.full();
        e.due("between(1, 9)", 6, full.between(1, 9));
        e.due("between(9, 8)", 1, full.between(9, 8));
        e.dueRow("between(9, 8)", full, 1);
        e.question(Edges::rich, "between(1, 2)", 3, t -> t.between(1, 2));

        e.says("NONE: others.");
        for (int d : new int[] {0, -1, 3, 10, Edges.MAX, Edges.MIN}) {
            e.refused(Edges::rich, "between(" + d + ", 1) of two", -1, t -> t.between(d, 1));
            e.refused(Edges::rich, "between(2, " + d + ") of two", -1, t -> t.between(2, d));
            e.refused(Edges::rich, "between(" + d + ", " + d + ") of two", -1, t -> t.between(d, d));
        }
        e.refused(TrailStore::new, "between(1, 1) of none", -1, t -> t.between(1, 1));
        e.refused(TrailStore::new, "between(0, 0) of none", -1, t -> t.between(0, 0));
        e.refused(Edges::full, "between(10, 9) of nine", -1, t -> t.between(10, 9));
        e.refused(Edges::full, "between(9, 10) of nine", -1, t -> t.between(9, 10));
    }

    public static void main(String[] args) throws Exception {
        e = new Edges(args[0]);
        promise25();
        promise26();
        promise27();
        promise28();
        promise29();
        e.end(25, 29);
    }
}
