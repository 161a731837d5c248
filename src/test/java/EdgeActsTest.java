/** The edges that promises 9 to 16 name: what is done to cells, variables, pairs. */
public final class EdgeActsTest {
    private static Edges e;

    /** The THINGS on the latest LEVEL's TRAIL. */
    private static void trail(String what, TrailStore s, long... want) {
        e.due(what + ": trail", want.length, s.trail(s.count(0)));
        e.dueRow(what + ": trail", s, want);
    }

    private static void promise9() {
        e.promise(9);
        e.says("A CELL becomes v: 1000 and what it was.");
        TrailStore s = new TrailStore();
        for (int i = 0; i < 6; i++) {
            e.due("sets of a new one", 1000, s.sets(i, 999));
            e.due("sets behind the greatest", 1999, s.sets(i, -999));
            e.due("sets behind the least", 1, s.sets(i, i));
            e.due("cell(" + i + ")", i, s.cell(i));
        }
        s.opens();
        e.due("sets to what it is", 1003, s.sets(3, 3));
        trail("sets to what it is", s);
        s.sets(3, 4);
        trail("sets to another", s, 3);

        e.says("NONE: others.");
        for (int v : new int[] {1000, -1000, Edges.MAX, Edges.MIN}) {
            e.refused(Edges::rich, "sets(0, " + v + ")", -1, t -> t.sets(0, v));
        }
        for (int i : new int[] {-1, 6, 10, Edges.MAX, Edges.MIN}) {
            e.refused(Edges::rich, "sets(" + i + ", 1)", -1, t -> t.sets(i, 1));
            e.refused(Edges::rich, "sets(" + i + ", 1000)", -1, t -> t.sets(i, 1000));
        }
    }

    private static void promise10() {
        e.promise(10);
        e.says("A CELL becomes by more (any number; below 0, too): 1000 and what it is then.");
        TrailStore s = new TrailStore();
        e.due("to the greatest", 1999, s.adds(5, 999));
        e.due("0 more", 1999, s.adds(5, 0));
        e.due("to the least at once", 1, s.adds(5, -1998));
        e.due("to the greatest at once", 1999, s.adds(5, 1998));
        e.due("cell(5)", 999, s.cell(5));
        e.due("below 0", 995, s.adds(0, -5));
        s.opens();
        s.adds(0, 0);
        trail("0 more", s);
        s.adds(0, 1);
        s.adds(0, -1);
        trail("as it was again", s, 0);

        e.says("-2: it would be no number -999 .. 999;");
        e.refused(Edges::rich, "one above the greatest", -2, t -> t.adds(5, 1));
        e.refused(Edges::rich, "one below the least", -2, t -> t.adds(5, -1999));
        e.refused(Edges::rich, "the greatest int", -2, t -> t.adds(5, Edges.MAX));
        e.refused(Edges::rich, "the least int", -2, t -> t.adds(5, Edges.MIN));
        // -8 and the least int would be a great number, if it wrapped
        e.refused(Edges::rich, "the least int to -8", -2, t -> t.adds(0, Edges.MIN));
        e.refused(Edges::rich, "what would wrap to a number", -2, t -> t.adds(5, Edges.MAX - 998));

        e.says("NONE: no such.");
        for (int i : new int[] {-1, 6, Edges.MAX, Edges.MIN}) {
            e.refused(Edges::rich, "adds(" + i + ", 1)", -1, t -> t.adds(i, 1));
            e.refused(Edges::rich, "adds(" + i + ", MAX)", -1, t -> t.adds(i, Edges.MAX));
        }
    }

    private static void promise11() {
        e.promise(11);
        e.says("A VALUE of a VARIABLE goes: how many are left.");
        TrailStore s = new TrailStore();
        for (int x = 0; x < 5; x++) {
            e.due("removes(" + x + ", 5)", 5, s.removes(x, 5));
            e.due("removes(" + x + ", 0)", 4, s.removes(x, 0));
            e.due("values(" + x + ")", 30, s.values(x));
        }
        s.opens();
        s.removes(1, 1);
        e.due("two left", 2, s.removes(1, 2));
        e.due("one left", 1, s.removes(1, 3));
        e.due("values(1)", 16, s.values(1));
        trail("removes", s, 11);

        e.says("-2: it is not there;");
        e.refused(Edges::rich, "removes(4, 4)", -2, t -> t.removes(4, 4));
        e.refused(Edges::rich, "removes(0, 5), as another one is the only one", -2, t -> t.removes(0, 5));

        e.says("-3: it is the only one;");
        e.refused(Edges::rich, "removes(0, 2)", -3, t -> t.removes(0, 2));
        e.refused(Edges::full, "removes(4, 3)", -3, t -> t.removes(4, 3));

        e.says("NONE: others.");
        for (int v : new int[] {-1, 6, 32, Edges.MAX, Edges.MIN}) {
            e.refused(Edges::rich, "removes(0, " + v + ")", -1, t -> t.removes(0, v));
            e.refused(Edges::rich, "removes(1, " + v + ")", -1, t -> t.removes(1, v));
        }
        for (int x : new int[] {-1, 5, 10, Edges.MAX, Edges.MIN}) {
            e.refused(Edges::rich, "removes(" + x + ", 0)", -1, t -> t.removes(x, 0));
        }
    }

    private static void promise12() {
        e.promise(12);
        e.says("All VALUES of a VARIABLE but one go: how many go.");
        TrailStore s = new TrailStore();
        s.opens();
        e.due("five go", 5, s.fixes(0, 0));
        e.due("values(0)", 1, s.values(0));
        e.due("five go", 5, s.fixes(4, 5));
        e.due("values(4)", 32, s.values(4));
        s.limits(2, 3, 4);
        e.due("one goes", 1, s.fixes(2, 4));
        trail("fixes", s, 10, 14, 12);
        s.opens();
        e.due("none goes", 0, s.fixes(2, 4));
        trail("none goes", s);

        e.says("-2: that is not there;");
        e.refused(Edges::rich, "fixes(4, 4)", -2, t -> t.fixes(4, 4));
        e.refused(Edges::rich, "fixes(0, 1)", -2, t -> t.fixes(0, 1));

        e.says("NONE: others.");
        for (int v : new int[] {-1, 6, 32, Edges.MAX, Edges.MIN}) {
            e.refused(Edges::rich, "fixes(1, " + v + ")", -1, t -> t.fixes(1, v));
        }
        for (int x : new int[] {-1, 5, 10, Edges.MAX, Edges.MIN}) {
            e.refused(Edges::rich, "fixes(" + x + ", 0)", -1, t -> t.fixes(x, 0));
        }
    }

    private static void promise13() {
        e.promise(13);
        e.says("VALUES of a VARIABLE below low and above high go (low, high 0 .. 5): how many go.");
        TrailStore s = new TrailStore();
        s.opens();
        e.due("all stay", 0, s.limits(0, 0, 5));
        trail("all stay", s);
        e.due("the ends go", 2, s.limits(0, 1, 4));
        e.due("values(0)", 30, s.values(0));
        e.due("low alone", 1, s.limits(0, 2, 5));
        e.due("high alone", 1, s.limits(0, 0, 3));
        e.due("values(0)", 12, s.values(0));
        e.due("to one", 1, s.limits(0, 3, 3));
        e.due("values(0)", 8, s.values(0));
        e.due("to the least", 5, s.limits(4, 0, 0));
        e.due("values(4)", 1, s.values(4));
        e.due("to the greatest", 5, s.limits(3, 5, 5));
        e.due("values(3)", 32, s.values(3));
        s.removes(1, 2);
        e.due("those that are there go", 3, s.limits(1, 0, 1));
        trail("limits", s, 10, 14, 13, 11);

        e.says("-2: none would be left;");
        e.refused(Edges::rich, "above what is there", -2, t -> t.limits(0, 3, 5));
        e.refused(Edges::rich, "below what is there", -2, t -> t.limits(0, 0, 1));
        e.refused(Edges::rich, "a gap", -2, t -> t.limits(4, 4, 4));
        e.refused(Edges::rich, "low above high", -2, t -> t.limits(1, 3, 2));
        e.refused(Edges::rich, "low far above high", -2, t -> t.limits(1, 5, 0));

        e.says("NONE: others.");
        for (int v : new int[] {-1, 6, 7, 32, Edges.MAX, Edges.MIN}) {
            e.refused(Edges::rich, "limits(1, " + v + ", 5)", -1, t -> t.limits(1, v, 5));
            e.refused(Edges::rich, "limits(1, 0, " + v + ")", -1, t -> t.limits(1, 0, v));
            e.refused(Edges::rich, "limits(0, " + v + ", 1)", -1, t -> t.limits(0, v, 1));
            e.refused(Edges::rich, "limits(0, 3, " + v + ")", -1, t -> t.limits(0, 3, v));
        }
        for (int x : new int[] {-1, 5, 10, Edges.MAX, Edges.MIN}) {
            e.refused(Edges::rich, "limits(" + x + ", 0, 5)", -1, t -> t.limits(x, 0, 5));
            e.refused(Edges::rich, "limits(" + x + ", 5, 0)", -1, t -> t.limits(x, 5, 0));
        }
    }

    private static void promise14() {
        e.promise(14);
        e.says("A VARIABLE has all VALUES again: how many come.");
        TrailStore s = new TrailStore();
        for (int x = 0; x < 5; x++) {
            e.due("none comes", 0, s.renews(x));
            s.removes(x, x);
            e.due("one comes", 1, s.renews(x));
            s.fixes(x, 5 - x);
            e.due("five come", 5, s.renews(x));
            e.due("values(" + x + ")", 63, s.values(x));
        }
        s.fixes(1, 1);
        s.opens();
        s.closes();
        e.due("behind closes()", 5, s.renews(1));
        s.fixes(1, 1);
        s.opens();
        s.commits();
        e.due("behind commits()", 5, s.renews(1));

        e.says("-2: a LEVEL is open;");
        e.refused(Edges::rich, "renews(0)", -2, t -> t.renews(0));
        e.refused(Edges::rich, "renews(1), which has all", -2, t -> t.renews(1));
        e.refused(Edges::full, "renews(4)", -2, t -> t.renews(4));
        e.refused(() -> Edges.opened(new TrailStore(), 1), "renews(2) in the first LEVEL", -2, t -> t.renews(2));

        e.says("NONE: no such.");
        for (int x : new int[] {-1, 5, 10, Edges.MAX, Edges.MIN}) {
            e.refused(TrailStore::new, "renews(" + x + ")", -1, t -> t.renews(x));
            e.refused(Edges::rich, "renews(" + x + ") while a LEVEL is open", -1, t -> t.renews(x));
        }
    }

    private static void promise15() {
        e.promise(15);
        e.says("The number of a KEY becomes v; one that is not there comes behind all PAIRS: its place among PAIRS (0, 1, ..).");
        TrailStore s = new TrailStore();
        int[] keys = {9, 0, 5, 3, 1, 8, 2, 7};
        for (int i = 0; i < 8; i++) {
            e.due("puts(" + keys[i] + ")", i, s.puts(keys[i], i));
        }
        s.opens();
        e.due("the greatest number, in its place", 0, s.puts(9, 999));
        e.due("the least number, in its place", 7, s.puts(7, -999));
        e.due("in its place", 3, s.puts(3, 44));
        e.due("pair(0, 1)", 999, s.pair(0, 1));
        e.due("pair(7, 1)", -999, s.pair(7, 1));
        e.due("pair(3, 1)", 44, s.pair(3, 1));
        e.due("pair(3, 0)", 3, s.pair(3, 0));
        e.due("count(2)", 8, s.count(2));
        trail("puts", s, 29, 27, 23);
        s.opens();
        e.due("the number it has", 3, s.puts(3, 44));
        trail("the number it has", s);
        s.drops(9);
        e.due("one that went comes behind all", 7, s.puts(9, 999));
        trail("a KEY that goes and comes", s, 29);
        TrailStore one = new TrailStore();
        one.opens();
        e.due("one that comes with 0", 0, one.puts(0, 0));
        trail("one that comes with 0", one, 20);

        e.says("-2: it is not there, and there are 8;");
        e.refused(Edges::full, "a ninth", -2, t -> t.puts(8, 0));
        e.refused(Edges::full, "a ninth", -2, t -> t.puts(9, -999));
        TrailStore f = Edges.full();
        e.due("one that is there", 7, f.puts(7, 0));
        f.drops(0);
        e.due("an eighth", 7, f.puts(9, 0));

        e.says("NONE: others.");
        for (int key : new int[] {-1, 10, 20, Edges.MAX, Edges.MIN}) {
            e.refused(Edges::rich, "puts(" + key + ", 1)", -1, t -> t.puts(key, 1));
            e.refused(Edges::full, "puts(" + key + ", 1) of 8", -1, t -> t.puts(key, 1));
        }
        for (int v : new int[] {1000, -1000, Edges.MAX, Edges.MIN}) {
            e.refused(Edges::rich, "puts(8, " + v + ")", -1, t -> t.puts(8, v));
            e.refused(Edges::rich, "puts(9, " + v + ")", -1, t -> t.puts(9, v));
            e.refused(Edges::full, "puts(9, " + v + ") of 8", -1, t -> t.puts(9, v));
        }
    }

    private static void promise16() {
        e.promise(16);
        e.says("A KEY goes: the place it had.");
        TrailStore s = Edges.full();
        s.back(0);
        s.opens();
        e.due("the last", 7, s.drops(7));
        e.due("the first", 0, s.drops(0));
        e.due("one between", 2, s.drops(3));
        int[] left = {1, 2, 4, 5, 6};
        e.due("count(2)", 5, s.count(2));
        for (int i = 0; i < left.length; i++) {
            e.due("pair(" + i + ", 0)", left[i], s.pair(i, 0));
            e.due("pair(" + i + ", 1)", left[i] - 999, s.pair(i, 1));
        }
        trail("drops", s, 27, 20, 23);
        TrailStore one = new TrailStore();
        one.puts(9, 0);
        e.due("the only one", 0, one.drops(9));
        e.due("count(2)", 0, one.count(2));

        e.says("-2: it is not there;");
        e.refused(TrailStore::new, "drops(0) of none", -2, t -> t.drops(0));
        e.refused(Edges::rich, "drops(4)", -2, t -> t.drops(4));
        e.refused(Edges::full, "drops(9)", -2, t -> t.drops(9));
        e.due("what went already", -2, one.drops(9));

        e.says("NONE: no such.");
        for (int key : new int[] {-1, 10, 28, Edges.MAX, Edges.MIN}) {
            e.refused(Edges::rich, "drops(" + key + ")", -1, t -> t.drops(key));
        }
    }

    public static void main(String[] args) throws Exception {
        e = new Edges(args[0]);
        promise9();
        promise10();
        promise11();
        promise12();
        promise13();
        promise14();
        promise15();
        promise16();
        e.end(9, 16);
    }
}
