/** The edges that promises 36 to 40 name: probes, what is left, which constraints are to blame, which have to go. */
public final class EdgeBlameTest {
    private static Edges e;

    private static void promise36() {
        e.promise(36);
        e.says("VALUES that are there with which alone of their VARIABLE it would FAIL to SPREAD (bits, 6 times the VARIABLE and VALUE): "
                + "they; the ROW: how many.");
        TrailStore s = new TrailStore();
        e.due("without constraints", 0, s.probes());
        e.dueRow("without constraints", s, 0);
        TrailStore first = Edges.with("w<v");
        e.due("the first VALUE of the first VARIABLE", 1 | 1 << 11, first.probes());
        e.dueRow("two", first, 2);
        TrailStore last = Edges.with("z<y");
        e.due("the last VALUE of the last VARIABLE", 1 << 18 | 1 << 29, last.probes());
        e.dueRow("two", last, 2);
        e.question(Edges::hopeless, "all 30, as it FAILS with each", (1 << 30) - 1, t -> t.probes());
        TrailStore all = Edges.hopeless();
        all.probes();
        e.dueRow("all 30", all, 30);
        TrailStore gone = Edges.with("w<v");
        gone.removes(0, 0);
        e.due("a VALUE that is not there is none of them", 1 << 11, gone.probes());
        e.dueRow("one", gone, 1);
        // v and w share 0 and 1 with x: either of x leaves one to both; so does either of v and w
        e.due("what no spread sees ahead of it", 3 | 3 << 6 | 3 << 12, Edges.hiddenHopeless().probes());
        TrailStore fixed = Edges.limited(Edges.with("v=w"), 2, 2);
        e.due("the only ones, which can be", 0, fixed.probes());
        e.question(Edges::rich, "probes", 1 << 6 | 1 << 7 | 1 << 8, t -> t.probes());
    }

    private static void promise37() {
        e.promise(37);
        e.says("How many VALUES all VARIABLES have behind fixes() of a VARIABLE and a VALUE, and spreads(): how many; the ROW: VALUES by VARIABLE (bits).");
        TrailStore s = new TrailStore();
        e.due("without constraints", 25, s.leaves(4, 5));
        e.dueRow("without constraints", s, 63, 63, 63, 63, 32);
        TrailStore five = Edges.with("v=w,w=x,x=y,y=z");
        e.due("one of each", 5, five.leaves(0, 0));
        e.dueRow("one of each", five, 1, 1, 1, 1, 1);
        TrailStore chain = Edges.with("v<w,w<x");
        e.due("the middle", 3 + 1 + 2 + 6 + 6, chain.leaves(1, 3));
        e.dueRow("the middle", chain, 7, 8, 48, 63, 63);
        TrailStore one = Edges.limited(Edges.with("v=w"), 2, 2);
        e.due("the only ones", 5, one.leaves(3, 2));
        e.question(Edges::rich, "leaves(1, 5)", 1 + 1 + 6 + 6 + 5, t -> t.leaves(1, 5));

        e.says("-2: the VALUE is not there;");
        e.refused(Edges::rich, "leaves(4, 4)", -2, t -> t.leaves(4, 4));
        e.refused(Edges::rich, "leaves(0, 0)", -2, t -> t.leaves(0, 0));
        e.refused(() -> Edges.limited(Edges.hopeless(), 1, 5), "one that is not there, and it would FAIL", -2, t -> t.leaves(0, 0));

        e.says("-3: it FAILS;");
        e.refused(Edges::rich, "leaves(1, 0)", -3, t -> t.leaves(1, 0));
        e.refused(Edges::hopeless, "leaves(4, 5)", -3, t -> t.leaves(4, 5));
        e.refused(Edges::hiddenHopeless, "leaves(2, 1)", -3, t -> t.leaves(2, 1));

        e.says("NONE: others.");
        for (int v : new int[] {-1, 6, 32, Edges.MAX, Edges.MIN}) {
            e.refused(Edges::rich, "leaves(1, " + v + ")", -1, t -> t.leaves(1, v));
            e.refused(Edges::hopeless, "leaves(1, " + v + ")", -1, t -> t.leaves(1, v));
        }
        for (int x : new int[] {-1, 5, 10, Edges.MAX, Edges.MIN}) {
            e.refused(Edges::rich, "leaves(" + x + ", 0)", -1, t -> t.leaves(x, 0));
        }
    }

    private static void culprits(String what, TrailStore s, int want) {
        e.due(what, want, s.culprits());
        e.dueRow(what, s, Integer.bitCount(want));
    }

    private static void promise38() {
        e.promise(38);
        e.says("The fewest CONSTRAINTS (bits; of as few the least number) with which alone it would FAIL to SPREAD: they; the ROW: how many.");
        culprits("the only one", Edges.with("v<w-9"), 1);
        culprits("the last of 8", Edges.with("v<w,w<x,x<y,y<z,v#z,w#z,x#z,v<w-9"), 128);
        culprits("the first of 8 that would do", Edges.with("v<w-9,v<w-9,v<w-9,v<w-9,v<w-9,v<w-9,v<w-9,v<w-9"), 1);
        culprits("the second and the eighth", Edges.with("w<x,v<w,x<y,y<z,w#z,x#z,v#z,w<v"), 130);
        culprits("one with a great number, not two with small ones", Edges.with("v<w,w<v,x<y-9"), 4);
        culprits("of two pairs the least number", Edges.with("v<w,x<y,y<x,w<v"), 6);
        culprits("of two pairs the least number", Edges.with("v<w,x<y,w<v,y<x"), 5);
        culprits("three together", Edges.with("y#z,v<w,w<x,!vwx,x<v"), 2 + 4 + 16);
        culprits("four together", Edges.limited(Edges.with("v<w,w<x,x<y,y<z"), 1, 4), 15);
        culprits("a set", Edges.limited(Edges.with("v#w,w#x,v#x,!vwx"), 0, 1), 8);
        culprits("all of 8", eight(), 255);
        e.question(Edges::hopeless, "culprits", 3, t -> t.culprits());

        e.says("-2: with all it does not FAIL.");
        e.refused(TrailStore::new, "without constraints", -2, t -> t.culprits());
        e.refused(Edges::rich, "culprits()", -2, t -> t.culprits());
        e.refused(Edges::hiddenHopeless, "no SOLUTION, but no spread sees it", -2, t -> t.culprits());
    }

    /** w can be 2 alone by y, x can be 5 alone by z; then each of the other six takes one value of v. */
    private static TrailStore eight() {
        TrailStore s = Edges.with("v#w,v#w-1,v#w-2,w=y,x=z,v#x,v#x-1,v#x-2");
        s.fixes(3, 2);
        s.fixes(4, 5);
        return s;
    }

    private static void why(String what, TrailStore s, int x, int v, int want) {
        e.due(what, want, s.why(x, v));
        e.dueRow(what, s, Integer.bitCount(want));
    }

    private static void promise39() {
        e.promise(39);
        e.says("The fewest CONSTRAINTS (bits; of as few the least number) with which alone a VALUE of a VARIABLE would go, or it would FAIL to SPREAD: "
                + "they; the ROW: how many.");
        why("the only one", Edges.with("v<w"), 0, 5, 1);
        why("the last of 8", Edges.with("v#w,w#x,x#y,y#z,v#z,w#z,x#z,z<v"), 4, 5, 128);
        why("the first that would do", Edges.with("v<w,v<x,v<y,v<z"), 0, 5, 1);
        why("two together", Edges.with("v<w,!vwx,w<x"), 0, 4, 5);
        why("one with a great number, not two with small ones", Edges.with("v<w,w<x,v<y-1"), 0, 4, 4);
        why("of two pairs the least number", Edges.with("v<w,v<y,y<z,w<x"), 0, 4, 6);
        why("four together", Edges.with("v<w,w<x,x<y,y<z"), 0, 2, 15);
        why("it FAILS by others", Edges.with("v<w,x<y-9"), 2, 3, 2);
        why("it FAILS by one, it would go by two", Edges.with("v<w,w<x,y<z-9"), 0, 4, 4);
        why("it goes by one, it FAILS by two", Edges.with("y<z,z<y,v<w"), 0, 5, 4);
        why("the only VALUE", Edges.limited(Edges.with("x#y,v#w"), 3, 3), 0, 3, 1);
        e.question(Edges::rich, "why(1, 2)", 1, t -> t.why(1, 2));

        e.says("-2: with all neither is;");
        e.refused(TrailStore::new, "without constraints", -2, t -> t.why(0, 0));
        e.refused(Edges::rich, "why(1, 3)", -2, t -> t.why(1, 3));
        e.refused(Edges::hiddenHopeless, "why(0, 0)", -2, t -> t.why(0, 0));

        e.says("-3: the VALUE is not there;");
        e.refused(Edges::rich, "why(4, 4)", -3, t -> t.why(4, 4));
        e.refused(Edges::rich, "why(0, 5)", -3, t -> t.why(0, 5));

        e.says("NONE: others.");
        for (int v : new int[] {-1, 6, 32, Edges.MAX, Edges.MIN}) {
            e.refused(Edges::rich, "why(1, " + v + ")", -1, t -> t.why(1, v));
            e.refused(Edges::hopeless, "why(1, " + v + ")", -1, t -> t.why(1, v));
        }
        for (int x : new int[] {-1, 5, 10, Edges.MAX, Edges.MIN}) {
            e.refused(Edges::rich, "why(" + x + ", 0)", -1, t -> t.why(x, 0));
            e.refused(Edges::hopeless, "why(" + x + ", 0)", -1, t -> t.why(x, 0));
        }
    }

    private static void mends(String what, TrailStore s, int want, int solutions) {
        e.due(what, want, s.mends());
        e.dueRow(what, s, Integer.bitCount(want), solutions);
    }

    private static void promise40() {
        e.promise(40);
        e.says("The fewest CONSTRAINTS (bits; of as few the least number) without which there is a SOLUTION: they (0: none has to go); "
                + "the ROW: how many, how many SOLUTIONS there are without them.");
        mends("without constraints", new TrailStore(), 0, 7776);
        mends("none has to go", Edges.with("v<w,!xyz"), 0, 15 * 120);
        mends("the only one", Edges.with("v<w-9"), 1, 7776);
        mends("all of 8", Edges.with("v<w-9,v<w-9,v<w-9,v<w-9,v<w-9,v<w-9,v<w-9,v<w-9"), 255, 7776);
        mends("the last of 8", Edges.with("v<w,v<w,v<w,v<w,v<w,v<w,v<w,v<w-9"), 128, 15 * 216);
        mends("of two the least number", Edges.with("x#y,v<w,w<v"), 2, 30 * 15 * 6);
        mends("one with a great number, not two with small ones", Edges.with("w<v,w<v-1,x<y,v<w"), 8, 10 * 15 * 6);
        // of 0, 2, 4 two have to go, of 1 and 3 one
        mends("three", Edges.with("v<w,x<y,w=v,x=y,v=w+1"), 7, 6 * 5 * 6);
        mends("one of each pair", Edges.with("v<w,x<y,y<x,w<v"), 3, 15 * 15 * 6);
        mends("what no spread sees", Edges.limited(Edges.with("v#w,w#x,v#x"), 0, 1), 1, 2 * 4);
        // of two that follow each other one has to go; then w is 2, x 3, y 2, z 3
        mends("VALUES that are there alone", Edges.limited(Edges.with("v<w,w<x,x<y,y<z"), 2, 3), 5, 2);
        // v 0 alone breaks none but the last, and all else is fixed
        TrailStore last = Edges.with("v<w,v#w-2,v<x-9");
        last.limits(1, 1, 1);
        last.limits(2, 0, 0);
        last.limits(3, 0, 0);
        last.limits(4, 0, 0);
        mends("one SOLUTION alone without it", last, 4, 1);
        TrailStore one = Edges.limited(Edges.with("v<w"), 2, 3);
        one.fixes(2, 2);
        one.fixes(3, 2);
        one.fixes(4, 2);
        mends("one SOLUTION, and none has to go", one, 0, 1);
        e.question(Edges::hopeless, "mends", 1, t -> t.mends());
        e.question(Edges::rich, "mends", 0, t -> t.mends());
    }

    public static void main(String[] args) throws Exception {
        e = new Edges(args[0]);
        promise36();
        promise37();
        promise38();
        promise39();
        promise40();
        e.end(36, 40);
    }
}
