import java.util.List;
import java.util.function.Supplier;

/** The edges that promises 41 to 50 name: what was heard, years, what was kept, counts, the ROW. */
public final class EdgeKeptTest {
    private static Edges e;

    private static TrailStore hopeless() {
        TrailStore s = new TrailStore();
        s.best();
        Edges.posts(s, "v<w,w<v");
        s.heard(4, 4, 1);
        s.opens();
        return s;
    }

    private static void promise41() {
        e.promise(41);
        e.says("It was heard of a SOLUTION that a VARIABLE is v (is 1), or not (is 0): how many such.");
        TrailStore s = new TrailStore();
        e.due("the first VARIABLE is the first VALUE", 1, s.heard(0, 0, 1));
        e.due("the last VARIABLE is not the last VALUE", 2, s.heard(4, 5, 0));
        e.due("fits", 5 * 216, s.fits());
        e.due("the last VARIABLE is the last but one", 3, s.heard(4, 4, 1));
        e.due("fits", 216, s.fits());
        e.due("the same once more", 4, s.heard(4, 4, 1));
        e.due("fits", 216, s.fits());
        e.due("what can't be, with what was heard", 5, s.heard(4, 3, 1));
        e.due("fits", 0, s.fits());
        TrailStore t = new TrailStore();
        t.removes(2, 3);
        e.due("a VALUE that is not there", 1, t.heard(2, 3, 1));
        e.due("count(6)", 1, t.count(6));
        TrailStore u = Edges.rich();
        e.due("in a LEVEL", 2, u.heard(0, 2, 1));
        e.dueRow("it tells no ROW", u, 2, 3, 0, 0, 2);
        u.closes();
        e.due("a closed LEVEL leaves it", 2, u.count(6));

        e.says("Refused: others, 10.");
        TrailStore ten = new TrailStore();
        for (int n = 1; n <= 10; n++) {
            e.due("heard", n, ten.heard(n % 5, n % 6, 0));
        }
        e.due("an eleventh", -1, ten.heard(0, 0, 1));
        e.due("count(6)", 10, ten.count(6));
        e.refused(Edges::full, "an eleventh", -1, w -> w.heard(0, 0, 1));
        e.refused(Edges::full, "an eleventh that was heard already", -1, w -> w.heard(0, 0, 0));
        for (int is : new int[] {-1, 2, Edges.MAX, Edges.MIN}) {
            e.refused(Edges::rich, "heard(0, 0, " + is + ")", -1, w -> w.heard(0, 0, is));
        }
        for (int v : new int[] {-1, 6, Edges.MAX, Edges.MIN}) {
            e.refused(Edges::rich, "heard(0, " + v + ", 1)", -1, w -> w.heard(0, v, 1));
        }
        for (int x : new int[] {-1, 5, Edges.MAX, Edges.MIN}) {
            e.refused(Edges::rich, "heard(" + x + ", 0, 0)", -1, w -> w.heard(x, 0, 0));
        }
    }

    private static void promise42() {
        e.promise(42);
        e.says("It is forgotten: how many there were.");
        TrailStore s = new TrailStore();
        e.due("none", 0, s.forget());
        s.heard(0, 0, 1);
        e.due("one", 1, s.forget());
        e.due("none again", 0, s.forget());
        e.due("count(6)", 0, s.count(6));
        TrailStore ten = Edges.full();
        e.due("ten", 10, ten.forget());
        e.due("count(6)", 0, ten.count(6));
        e.due("fits as many as there are", ten.many(), ten.fits());
        for (int n = 1; n <= 10; n++) {
            e.due("ten more", n, ten.heard(0, 0, 0));
        }
        e.due("an eleventh", -1, ten.heard(0, 0, 0));
        TrailStore t = Edges.rich();
        t.forget();
        TrailStore u = Edges.rich();
        e.due("it tells no ROW", true, Edges.row(t).equals(Edges.row(u)));
    }

    private static void promise43() {
        e.promise(43);
        e.says("SOLUTIONS that fit all that was heard: how many; the ROW: the first one (nothing without).");
        TrailStore s = new TrailStore();
        e.due("nothing was heard", 7776, s.fits());
        e.dueRow("nothing was heard", s, 0, 0, 0, 0, 0);
        s.heard(0, 0, 0);
        e.due("not the first", 6480, s.fits());
        e.dueRow("not the first", s, 1, 0, 0, 0, 0);
        s.heard(4, 5, 1);
        e.due("the last", 1080, s.fits());
        e.dueRow("the last", s, 1, 0, 0, 0, 5);
        for (int v = 1; v < 6; v++) {
            s.heard(0, v, 0);
        }
        e.due("none", 0, s.fits());
        e.dueRow("none", s);
        e.due("many all the same", 7776, s.many());
        TrailStore one = new TrailStore();
        for (int x = 0; x < 5; x++) {
            one.heard(x, 5 - x, 1);
        }
        e.due("one", 1, one.fits());
        e.dueRow("one", one, 5, 4, 3, 2, 1);
        one.removes(0, 5);
        e.due("a VALUE that is not there", 0, one.fits());
        TrailStore both = new TrailStore();
        both.heard(1, 1, 1);
        both.heard(1, 1, 0);
        e.due("so and not so", 0, both.fits());
        e.question(EdgeKeptTest::hopeless, "without a SOLUTION", 0, t -> t.fits());
        // x is not 1
        e.question(Edges::rich, "fits", 3 * 5 * 26, t -> t.fits());
    }

    private static void promise44() {
        e.promise(44);
        e.says("What to ask next, so that, it is so or not, the fewest SOLUTIONS that fit are left at most: "
                + "6 times a VARIABLE and a VALUE, of equal ones the least: it; the ROW: how many at most.");
        TrailStore s = new TrailStore();
        e.due("all as good", 0, s.asks());
        e.dueRow("all as good", s, 6480);
        s.limits(4, 4, 5);
        e.due("half of them", 6 * 4 + 4, s.asks());
        e.dueRow("half of them", s, 1296);
        s.limits(3, 0, 1);
        e.due("of two halves the least", 6 * 3, s.asks());
        e.dueRow("of two halves the least", s, 6 * 6 * 6 * 2);
        s.limits(0, 5, 5);
        s.limits(1, 5, 5);
        s.limits(2, 5, 5);
        s.fixes(3, 1);
        e.due("the last VARIABLE", 6 * 4 + 4, s.asks());
        e.dueRow("one is left", s, 1);
        s.heard(4, 5, 1);
        e.due("one fits: all as good", 0, s.asks());
        e.dueRow("one fits", s, 1);
        TrailStore most = Edges.with("v<w");
        most.fixes(1, 2);
        most.removes(2, 0);
        // v is 0 or 1, and half of all have either
        e.due("v is 0", 0, most.asks());
        e.dueRow("v is 0", most, 5 * 36);
        TrailStore not = Edges.with("v=w,v=x,v=y");
        not.limits(4, 0, 2);
        not.removes(0, 5);
        // a third of z is less than a half, and more than a fifth
        e.due("the nearest to a half", 24, not.asks());
        e.dueRow("the nearest to a half", not, 10);
        // w is 5 in 5 of 15: what is not so counts, too
        TrailStore w = Edges.with("v<w");
        w.fixes(2, 0);
        w.fixes(3, 0);
        w.fixes(4, 0);
        e.due("v is 0, or w is 5: the least", 0, w.asks());
        e.dueRow("ten at most", w, 10);
        w.heard(0, 0, 0);
        // v 1: 4 of 10, w 5: 4 of 10
        e.due("of those that fit", 1, w.asks());
        e.dueRow("of those that fit", w, 6);
        e.question(Edges::rich, "asks", 6 + 3, t -> t.asks());

        e.says("-2: none fits.");
        e.refused(EdgeKeptTest::hopeless, "without a SOLUTION", -2, t -> t.asks());
        e.refused(EdgeKeptTest::heardTooMuch, "with what was heard", -2, t -> t.asks());
    }

    private static TrailStore heardTooMuch() {
        TrailStore s = Edges.rich();
        s.heard(4, 4, 1);
        return s;
    }

    /** DRAWs of the document, by long numbers. */
    private static final class Draws {
        private long r;

        Draws(int seed) {
            r = seed & 0xFFFFFFFFL;
        }

        int of(int n) {
            r = (r * 1103515245L + 12345) & 0xFFFFFFFFL;
            return (int) (r / 65536 % n);
        }
    }

    /** What years() would dream of, done by calls. */
    private static TrailStore lived(TrailStore s, int seed, int n) {
        Draws draws = new Draws(seed);
        for (int year = 0; year < n; year++) {
            switch (draws.of(8)) {
                case 0: {
                    int i = draws.of(6);
                    s.adds(i, draws.of(41) - 20);
                    break;
                }
                case 1: {
                    int x = draws.of(5);
                    s.removes(x, draws.of(6));
                    break;
                }
                case 2: {
                    int key = draws.of(10);
                    s.puts(key, draws.of(100));
                    break;
                }
                case 3: s.drops(draws.of(10)); break;
                case 4: s.opens(); break;
                case 5: s.closes(); break;
                case 6: s.commits(); break;
                default: s.spreads(); break;
            }
        }
        return s;
    }

    private static void years(Supplier<TrailStore> made, int seed, int n) {
        String what = "years(" + seed + ", " + n + ")";
        TrailStore does = lived(made.get(), seed, n);
        TrailStore dreams = made.get();
        e.due(what, does.count(0), dreams.years(seed, n));
        e.dueRow(what, dreams, does.count(4) - 10000, does.count(1), does.count(2), does.count(5));
    }

    /** One value of each variable, cells at their greatest: most is refused. */
    private static TrailStore tight() {
        TrailStore s = Edges.with("v<w,w<v");
        Edges.limited(s, 3, 3);
        s.sheet(2, 6, 999, 0);
        return s;
    }

    private static void promise45() {
        e.promise(45);
        e.says("What would come (all stays as it is), if n times (1 .. 40) this were done: a DRAW of 8: 0: a DRAW of 6, a DRAW of 41 less 20: adds(); "
                + "1: a DRAW of 5, a DRAW of 6: removes(); 2: a DRAW of 10, a DRAW of 100: puts(); 3: a DRAW of 10: drops(); 4: opens(); "
                + "5: closes(); 6: commits(); 7: spreads() (what is refused is not done): DEPTH it would be then; "
                + "the ROW: the sum of CELLS, how many VALUES all VARIABLES have, how many PAIRS, how many THINGS all TRAILS have together, then.");
        boolean[] seen = new boolean[8];
        for (int seed = -60; seed <= 60; seed++) {
            int wide = seed * 35791397;
            seen[new Draws(wide).of(8)] = true;
            years(TrailStore::new, wide, 1);
            years(TrailStore::new, wide, 40);
            years(Edges::rich, wide, 1);
            years(Edges::rich, wide, 1 + (seed + 60) % 40);
            years(Edges::full, wide, 1 + (seed + 60) % 9);
            years(EdgeKeptTest::tight, wide, 40 - (seed + 60) % 40);
        }
        for (int what = 0; what < 8; what++) {
            e.due("a first DRAW of " + what + " was among them", true, seen[what]);
        }
        for (int seed : new int[] {0, 1, -1, Edges.MAX, Edges.MIN}) {
            years(Edges::rich, seed, 40);
            years(Edges::full, seed, 40);
            TrailStore s = Edges.rich();
            e.question(Edges::rich, "all stays as it is", s.years(seed, 40), t -> t.years(seed, 40));
            TrailStore f = Edges.full();
            e.question(Edges::full, "all stays as it is", f.years(seed, 40), t -> t.years(seed, 40));
        }

        putsWhatIsThere();

        e.says("NONE: another n.");
        for (int n : new int[] {0, -1, 41, 42, Edges.MAX, Edges.MIN}) {
            e.refused(Edges::rich, "years(1, " + n + ")", -1, t -> t.years(1, n));
        }

        e.says("A DRAW of n: R = R times 1103515245 + 12345 (as ints; R is seed at first), (R without sign, by 65536) % n.");
        // R is 12345 first, and 12345 by 65536 is 0: adds()
        long r1 = 12345L;
        long r2 = (r1 * 1103515245L + 12345) & 0xFFFFFFFFL;
        long r3 = (r2 * 1103515245L + 12345) & 0xFFFFFFFFL;
        TrailStore zero = new TrailStore();
        e.due("years(0, 1)", 0, zero.years(0, 1));
        e.dueRow("years(0, 1) adds to one cell", zero, r3 / 65536 % 41 - 20, 30, 0, 0);
        e.due("R without sign comes in it", true, (int) r2 < 0 || (int) r3 < 0);
        TrailStore twice = new TrailStore();
        twice.years(77, 40);
        List<Long> first = Edges.row(twice);
        twice.years(-5, 3);
        twice.years(77, 40);
        e.due("R is seed at first, each time", true, first.equals(Edges.row(twice)));
    }

    /** A first act that puts the number a KEY has CHANGES nothing, so that the number that is drawn is seen in the TRAILS. */
    private static void putsWhatIsThere() {
        boolean[] high = new boolean[2];
        for (int seed = 0; seed < 4000; seed++) {
            Draws draws = new Draws(seed * 35791397);
            if (draws.of(8) == 2) {
                int key = draws.of(10);
                int number = draws.of(100);
                high[number / 50] = true;
                TrailStore s = new TrailStore();
                s.puts(key, number);
                s.opens();
                e.due("puts() of the number it has", 1, s.years(seed * 35791397, 1));
                e.dueRow("puts() of the number it has", s, 0, 30, 1, 0);
                s.puts(key, number + 1);
                s.opens();
                e.due("puts() of another number", 2, s.years(seed * 35791397, 1));
                e.dueRow("puts() of another number", s, 0, 30, 1, 2);
            }
        }
        e.due("numbers below 50 and others were among them", true, high[0] && high[1]);
    }

    private static void promise46() {
        e.promise(46);
        e.says("THINGS (PAIRS in their order) are kept under a number 0 .. 1: true.");
        TrailStore s = Edges.rich();
        e.due("keep(0) anew", true, s.keep(0));
        e.due("differs(0)", 0, s.differs(0));
        e.due("differs(1), which is another", -2, s.differs(1));
        s.sets(0, 77);
        e.due("keep(1)", true, s.keep(1));
        e.due("differs(0)", 1, s.differs(0));
        e.due("differs(1)", 0, s.differs(1));
        s.lifts(0);
        s.fixes(4, 0);
        e.due("what was kept stays as it was", 2, s.differs(1));
        e.due("LEVELS stay", 2, s.count(0));
        s.back(0);
        e.due("a closed LEVEL leaves what was kept", true, s.again(1));
        e.due("cell(0)", 77, s.cell(0));
        TrailStore pairs = new TrailStore();
        pairs.puts(5, 1);
        pairs.puts(2, 2);
        pairs.keep(1);
        pairs.drops(5);
        pairs.puts(5, 1);
        pairs.again(1);
        e.due("PAIRS in their order", 5, pairs.pair(0, 0));
        e.due("PAIRS in their order", 2, pairs.pair(1, 0));
        TrailStore row = Edges.rich();
        row.keep(1);
        e.dueRow("it tells no ROW", row, 2, 3, 0, 0, 2);

        e.says("Refused: others.");
        for (int i : new int[] {-1, 2, 3, Edges.MAX, Edges.MIN}) {
            e.refused(Edges::rich, "keep(" + i + ")", 0, t -> t.keep(i) ? 1 : 0);
        }
    }

    private static void promise47() {
        e.promise(47);
        e.says("THINGS (PAIRS in their order) are as they were kept under a number; no LEVEL is open.");
        TrailStore s = Edges.rich();
        e.due("again(0)", true, s.again(0));
        e.due("count(0)", 0, s.count(0));
        e.due("count(5)", 0, s.count(5));
        e.due("cell(0)", -7, s.cell(0));
        e.due("cell(5)", 0, s.cell(5));
        e.due("values(0)", 63, s.values(0));
        e.due("values(4)", 47, s.values(4));
        e.due("the first PAIR", 8, s.pair(0, 0));
        e.due("the second PAIR", -6, s.pair(1, 1));
        e.due("count(3)", 3, s.count(3));
        e.due("sort of 1", 3, s.constraint(1, 0));
        e.due("THE TEXT stays", 5, s.count(8));
        e.due("what was heard stays", 1, s.count(6));
        e.dueRow("it tells no ROW", s, 2, 3, 0, 0, 2);
        e.due("closes()", -2, s.closes());
        e.due("renews(), as no LEVEL is open", 1, s.renews(4));
        e.due("what is kept is kept on", true, s.again(0));
        e.due("values(4)", 47, s.values(4));
        TrailStore f = Edges.full();
        e.due("again(1) of nine LEVELS", true, f.again(1));
        e.due("count(0)", 0, f.count(0));
        e.due("count(4)", 10000 + 6 * 999, f.count(4));
        e.due("a LEVEL can be opened", 1, f.opens());
        e.due("its TRAIL is empty", 0, f.trail(1));
        TrailStore empty = new TrailStore();
        empty.keep(0);
        empty.puts(1, 1);
        Edges.posts(empty, "v<w");
        e.due("again(0)", true, empty.again(0));
        e.due("no PAIRS", 0, empty.count(2));
        e.due("no CONSTRAINTS", 0, empty.count(3));

        e.says("Refused: nothing kept.");
        e.refused(TrailStore::new, "again(0)", 0, t -> t.again(0) ? 1 : 0);
        e.refused(Edges::rich, "again(1)", 0, t -> t.again(1) ? 1 : 0);
        e.refused(Edges::full, "again(0)", 0, t -> t.again(0) ? 1 : 0);
        for (int i : new int[] {-1, 2, 3, Edges.MAX, Edges.MIN}) {
            e.refused(Edges::rich, "again(" + i + ")", 0, t -> t.again(i) ? 1 : 0);
        }
    }

    private static void promise48() {
        e.promise(48);
        e.says("THINGS that are OTHERWISE than they were kept under a number (0 .. 1): how many; the ROW: they, rising.");
        TrailStore s = Edges.rich();
        e.due("differs(0)", 4, s.differs(0));
        e.dueRow("differs(0)", s, 0, 5, 10, 30);
        s.keep(1);
        e.due("differs(1)", 0, s.differs(1));
        e.dueRow("differs(1)", s);
        TrailStore all = new TrailStore();
        all.puts(8, 0);
        all.puts(9, 0);
        all.keep(0);
        all.sheet(2, 6, 1, 0);
        for (int x = 0; x < 5; x++) {
            all.removes(x, 0);
        }
        all.drops(8);
        all.drops(9);
        for (int key = 0; key < 8; key++) {
            all.puts(key, 0);
        }
        Edges.posts(all, "v<w");
        e.due("all THINGS", 22, all.differs(0));
        e.dueRow("all THINGS", all, 0, 1, 2, 3, 4, 5, 10, 11, 12, 13, 14, 20, 21, 22, 23, 24, 25, 26, 27, 28, 29, 30);
        TrailStore zero = new TrailStore();
        zero.keep(0);
        zero.puts(0, 0);
        e.due("a KEY that is there with 0", 1, zero.differs(0));
        e.dueRow("a KEY that is there with 0", zero, 20);
        zero.keep(0);
        zero.puts(0, 1);
        e.due("another number of it", 1, zero.differs(0));
        zero.puts(0, 0);
        e.due("as it was", 0, zero.differs(0));
        e.question(Edges::rich, "differs(0)", 4, t -> t.differs(0));

        e.says("-2: nothing is kept there;");
        e.refused(Edges::rich, "differs(1)", -2, t -> t.differs(1));
        e.refused(Edges::full, "differs(0)", -2, t -> t.differs(0));

        e.says("NONE: others.");
        for (int i : new int[] {-1, 2, 3, Edges.MAX, Edges.MIN}) {
            e.refused(Edges::rich, "differs(" + i + ")", -1, t -> t.differs(i));
            e.refused(TrailStore::new, "differs(" + i + ") as nothing is kept", -1, t -> t.differs(i));
        }
    }

    private static void counts(String what, TrailStore s, int... want) {
        for (int i = 0; i < 10; i++) {
            e.due(what + ": count(" + i + ")", want[i], s.count(i));
        }
    }

    private static void promise49() {
        e.promise(49);
        e.says("What 0: DEPTH, 1: how many VALUES all VARIABLES have, 2: PAIRS, 3: CONSTRAINTS, 4: the sum of CELLS and 10000, "
                + "5: how many THINGS all TRAILS have together, 6: what was heard, 7: numbers of the ROW, 8: signs of THE TEXT, "
                + "9: VARIABLES that have one VALUE (bits).");
        counts("a new one", new TrailStore(), 0, 30, 0, 0, 10000, 0, 0, 0, 0, 0);
        counts("something of each", Edges.rich(), 2, 1 + 6 + 6 + 6 + 5, 2, 2, 10000 - 8 + 999, 6, 1, 5, 5, 1);
        counts("as much as can be", Edges.full(), 9, 25, 8, 8, 10000 + 6 * 999 - 9, 9, 10, 1, 80, 16);
        TrailStore least = Edges.limited(new TrailStore(), 3, 3);
        least.sheet(2, 6, -999, 0);
        counts("the least", least, 0, 5, 0, 0, 10000 - 6 * 999, 0, 0, 0, 0, 31);
        TrailStore rows = new TrailStore();
        rows.best();
        e.due("count(7) of best()", 6, rows.count(7));
        rows.search(0);
        e.due("count(7) of search()", 9, rows.count(7));
        rows.would(0);
        e.due("count(7) of an empty ROW", 0, rows.count(7));
        for (int what = 0; what < 10; what++) {
            int w = what;
            e.refused(Edges::rich, "it changes nothing", Edges.rich().count(what), t -> t.count(w));
        }

        e.says("-100 for another what.");
        for (int what : new int[] {-1, 10, 11, Edges.MAX, Edges.MIN}) {
            e.refused(Edges::rich, "count(" + what + ")", -100, t -> t.count(what));
        }
    }

    private static void promise50() {
        e.promise(50);
        e.says("Number i of the ROW.");
        TrailStore s = new TrailStore();
        s.sets(4, -999);
        s.limits(4, 5, 5);
        s.best();
        long[] want = {-4995, 0, 0, 0, 0, 5};
        for (int i = 0; i < want.length; i++) {
            e.due("row(" + i + ")", want[i], s.row(i));
        }
        e.refused(Edges::rich, "row(1)", 3, t -> t.row(1));

        e.says("NoSuchElementException: none such.");
        e.throwsIn(TrailStore::new, "row(0) of a new one", t -> t.row(0));
        for (int i : new int[] {-1, 5, 6, 22, Edges.MAX, Edges.MIN}) {
            e.throwsIn(Edges::rich, "row(" + i + ") of five", t -> t.row(i));
        }
        e.dueThrows("row(6) of six", s, t -> t.row(6));
        s.would(0);
        e.dueThrows("row(0) of an empty one", s, t -> t.row(0));
        s.opens();
        s.sets(0, 1);
        s.sets(1, 1);
        s.would(0);
        e.due("row(1) of two", 1, s.row(1));
        e.dueThrows("row(2) of two", s, t -> t.row(2));
    }

    public static void main(String[] args) throws Exception {
        e = new Edges(args[0]);
        promise41();
        promise42();
        promise43();
        promise44();
        promise45();
        promise46();
        promise47();
        promise48();
        promise49();
        promise50();
        e.end(41, 50);
    }
}
