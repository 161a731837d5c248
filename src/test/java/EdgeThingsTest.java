/** The edges that promises 1 to 8 name: a new object, THE TEXT, reading things, the sheet. */
public final class EdgeThingsTest {
    private static Edges e;

    private static void promise1() {
        e.promise(1);
        e.says("No LEVEL is open.");
        TrailStore s = new TrailStore();
        e.due("count(0)", 0, s.count(0));
        e.due("closes()", -2, s.closes());
        e.due("commits()", -2, s.commits());
        e.due("back(1)", -1, s.back(1));
        e.due("trail(1)", -1, s.trail(1));
        e.due("was(1, 0)", -1, s.was(1, 0));
        e.due("opens()", 1, s.opens());
        TrailStore other = new TrailStore();
        e.due("count(0) of another one", 0, other.count(0));
    }

    private static void promise2() {
        e.promise(2);
        e.says("Four signs come behind THE TEXT, of v the highest byte first: how many it has.");
        TrailStore s = new TrailStore();
        e.due("sign", 4, s.sign('A' << 24 | '=' << 16 | '1' << 8 | '2'));
        e.due("sign", 8, s.sign('B' << 24 | '=' << 16 | '3' << 8 | '4'));
        e.due("run()", 2, s.run());
        e.due("the highest byte first", 12, s.cell(0));
        e.due("behind it", 34, s.cell(1));
        // the first byte makes the int one below 0: a sign 255, not one of -1
        e.due("sign of -1", 4, s.sign(-1));
        e.due("run()", -1, s.run());
        e.due("sign of MIN", 4, s.sign(Edges.MIN));
        e.due("sign of MAX", 8, s.sign(Edges.MAX));
        s.end(0);
        s.sign('p' << 24 | 'p' << 16 | 'p' << 8 | 'p');
        s.end(3);
        e.due("sign behind three", 7, s.sign('A' << 24 | '=' << 16 | '9' << 8 | '9'));
        e.due("run()", 4, s.run());
        e.due("cell(0)", 99, s.cell(0));

        e.says("Refused: there would be more than 80.");
        for (int there = 76; there <= 80; there++) {
            TrailStore t = Edges.write(new TrailStore(), "A=01".repeat(20).substring(0, there));
            e.due("count(8)", there, t.count(8));
            e.due("sign behind " + there, there == 76 ? 80 : -1, t.sign('B' << 24 | '=' << 16 | '0' << 8 | '2'));
            e.due("count(8) then", there == 76 ? 80 : there, t.count(8));
        }
        e.refused(Edges::full, "sign behind 80", -1, s1 -> s1.sign('B' << 24 | '=' << 16 | '0' << 8 | '2'));
        e.refused(Edges::full, "sign of -1 behind 80", -1, s1 -> s1.sign(-1));
        TrailStore u = Edges.full();
        u.sign(0);
        e.due("the 80 are as they were", 20, u.run());
        e.due("an emptied one has room", 4, u.sign(0));
    }

    private static void promise3() {
        e.promise(3);
        e.says("THE TEXT has its first n signs alone: true;");
        TrailStore s = Edges.write(new TrailStore(), "A=12B=34");
        e.due("all of it", true, s.end(8));
        e.due("count(8)", 8, s.count(8));
        e.due("half of it", true, s.end(4));
        e.due("count(8)", 4, s.count(8));
        e.due("the first ones", 1, s.run());
        e.due("cell(0)", 12, s.cell(0));
        e.due("cell(1)", 0, s.cell(1));
        e.due("none of none", true, s.end(0));
        Edges.write(s, "A=77");
        e.due("none of four", true, s.end(0));
        e.due("an empty RUN", 0, s.run());
        e.due("cell(0)", 12, s.cell(0));
        e.due("80 of 80", true, Edges.full().end(80));

        e.says("false if it has not so many, or n is below 0.");
        e.due("one of none", false, new TrailStore().end(1));
        e.due("-1 of none", false, new TrailStore().end(-1));
        for (int n : new int[] {6, 7, 80, 81, Edges.MAX, -1, -2, Edges.MIN}) {
            e.refused(Edges::rich, "end(" + n + ") of five", 0, t -> t.end(n) ? 1 : 0);
        }
        e.refused(Edges::full, "end(81) of 80", 0, t -> t.end(81) ? 1 : 0);
        TrailStore t = Edges.write(new TrailStore(), "A=12B=34");
        t.end(4);
        e.due("what was cut is there no more", false, t.end(8));
        t.run();
        e.due("what was read is there no more", false, t.end(1));
    }

    private static void promise4() {
        e.promise(4);
        e.says("What is in a CELL.");
        TrailStore s = new TrailStore();
        for (int i = 0; i < 6; i++) {
            e.due("cell(" + i + ") at first", 0, s.cell(i));
            s.sets(i, 100 * i - 250);
        }
        for (int i = 0; i < 6; i++) {
            e.due("cell(" + i + ")", 100 * i - 250, s.cell(i));
        }
        s.sets(0, -999);
        s.sets(5, 999);
        e.due("the least number", -999, s.cell(0));
        e.due("the greatest number", 999, s.cell(5));
        e.question(Edges::rich, "cell(0)", -8, t -> t.cell(0));

        e.says("NoSuchElementException: no such.");
        for (int i : new int[] {-1, 6, 7, 10, Edges.MIN, Edges.MAX}) {
            e.throwsIn(Edges::rich, "cell(" + i + ")", t -> t.cell(i));
        }
    }

    private static void promise5() {
        e.promise(5);
        e.says("VALUES of a VARIABLE (bits).");
        TrailStore s = new TrailStore();
        for (int x = 0; x < 5; x++) {
            e.due("values(" + x + ") at first", 63, s.values(x));
            s.removes(x, x);
        }
        for (int x = 0; x < 5; x++) {
            e.due("values(" + x + ")", 63 & ~(1 << x), s.values(x));
        }
        s.fixes(0, 5);
        s.fixes(4, 0);
        e.due("the greatest alone", 32, s.values(0));
        e.due("the least alone", 1, s.values(4));
        e.question(Edges::rich, "values(4)", 63 & ~16, t -> t.values(4));

        e.says("NoSuchElementException: no such.");
        for (int x : new int[] {-1, 5, 6, 10, Edges.MIN, Edges.MAX}) {
            e.throwsIn(Edges::rich, "values(" + x + ")", t -> t.values(x));
        }
    }

    private static void promise6() {
        e.promise(6);
        e.says("Of PAIR i, in order (0, 1, ..), what 0: KEY, 1: number.");
        TrailStore s = new TrailStore();
        int[] keys = {9, 0, 5, 3, 1, 8, 2, 7};
        for (int i = 0; i < 8; i++) {
            s.puts(keys[i], i == 0 ? -999 : i == 7 ? 999 : 10 * i);
        }
        for (int i = 0; i < 8; i++) {
            e.due("pair(" + i + ", 0)", keys[i], s.pair(i, 0));
            e.due("pair(" + i + ", 1)", i == 0 ? -999 : i == 7 ? 999 : 10 * i, s.pair(i, 1));
        }
        e.question(Edges::rich, "pair(1, 0)", 8, t -> t.pair(1, 0));

        e.says("NoSuchElementException: none such, another what.");
        e.throwsIn(TrailStore::new, "pair(0, 0) of none", t -> t.pair(0, 0));
        e.throwsIn(Edges::full, "pair(8, 0) of eight", t -> t.pair(8, 0));
        for (int i : new int[] {-1, 2, 3, Edges.MIN, Edges.MAX}) {
            e.throwsIn(Edges::rich, "pair(" + i + ", 0) of two", t -> t.pair(i, 0));
            e.throwsIn(Edges::rich, "pair(" + i + ", 1) of two", t -> t.pair(i, 1));
        }
        for (int what : new int[] {-1, 2, 3, Edges.MIN, Edges.MAX}) {
            e.throwsIn(Edges::rich, "pair(0, " + what + ")", t -> t.pair(0, what));
        }
        s.drops(7);
        e.dueThrows("pair(7, 0) of seven", s, t -> t.pair(7, 0));
        e.due("pair(6, 0) of seven", 2, s.pair(6, 0));
    }

    private static void promise7() {
        e.promise(7);
        e.says("Of CONSTRAINT i, what 0: its sort (0 .. 3), 1: x (of sort 3: the set), 2: y (of sort 3: 0), 3: d (of sort 3: 0).");
        TrailStore s = Edges.with("v<z,z=v+9,w#x-9,!vz,!zyxwv,y<w+0,x=y-0,!yw");
        int[][] want = {{0, 0, 4, 0}, {1, 4, 0, 9}, {2, 1, 2, -9}, {3, 17, 0, 0}, {3, 31, 0, 0}, {0, 3, 1, 0}, {1, 2, 3, 0},
            {3, 10, 0, 0}};
        for (int i = 0; i < want.length; i++) {
            for (int what = 0; what < 4; what++) {
                e.due("constraint(" + i + ", " + what + ")", want[i][what], s.constraint(i, what));
            }
        }
        e.question(Edges::rich, "constraint(1, 3)", 2, t -> t.constraint(1, 3));

        e.says("NoSuchElementException: none such, another what.");
        e.throwsIn(TrailStore::new, "constraint(0, 0) of none", t -> t.constraint(0, 0));
        e.throwsIn(Edges::full, "constraint(8, 0) of eight", t -> t.constraint(8, 0));
        for (int i : new int[] {-1, 2, 3, Edges.MIN, Edges.MAX}) {
            for (int what = 0; what < 4; what++) {
                int part = what;
                e.throwsIn(Edges::rich, "constraint(" + i + ", " + what + ") of two", t -> t.constraint(i, part));
            }
        }
        for (int what : new int[] {-1, 4, 5, Edges.MIN, Edges.MAX}) {
            e.throwsIn(Edges::rich, "constraint(0, " + what + ")", t -> t.constraint(0, what));
        }
        s.lifts(0);
        e.dueThrows("constraint(7, 0) of seven", s, t -> t.constraint(7, 0));
    }

    private static void cells(String what, TrailStore s, int... want) {
        for (int i = 0; i < 6; i++) {
            e.due(what + ": cell(" + i + ")", want[i], s.cell(i));
        }
    }

    private static TrailStore sheeted(String what, long want, int kind, int n, int f, int step) {
        TrailStore s = new TrailStore();
        s.sheet(2, 6, 500, 1);
        e.due(what, want, s.sheet(kind, n, f, step));
        return s;
    }

    private static void promise8() {
        e.promise(8);
        e.says("CELLS 0, 1, .. become what a sheet tells: bytes (kind 0), shorts (1), ints (2) of n entries f, f + step, ..");
        cells("bytes", sheeted("bytes", 10000 + 9, 0, 3, 2, 1), 2, 3, 4, 0, 0, 0);
        cells("shorts", sheeted("shorts", 10000 + 600, 1, 3, 100, 100), 100, 200, 300, 0, 0, 0);
        cells("ints", sheeted("ints", 10000 + 600, 2, 3, 300, -100), 300, 200, 100, 0, 0, 0);
        cells("one", sheeted("one", 10000 - 5, 2, 1, -5, 7), -5, 0, 0, 0, 0, 0);
        cells("six", sheeted("six", 10000 + 15, 0, 6, 0, 1), 0, 1, 2, 3, 4, 5);
        cells("six without a step", sheeted("six without a step", 10000 - 12, 1, 6, -2, 0), -2, -2, -2, -2, -2, -2);
        cells("a step below 0", sheeted("a step below 0", 10000 - 15, 2, 6, 0, -1), 0, -1, -2, -3, -4, -5);

        e.says("(of bytes, shorts the lowest bits, with their sign; put to -999 .. 999)");
        cells("bytes", sheeted("bytes", 10000 + 127 - 128 - 127, 0, 3, 127, 1), 127, -128, -127, 0, 0, 0);
        cells("bytes", sheeted("bytes", 10000 - 1 + 0 + 1, 0, 3, 255, 1), -1, 0, 1, 0, 0, 0);
        cells("bytes", sheeted("bytes", 10000 - 128 + 127, 0, 2, -128, -1), -128, 127, 0, 0, 0, 0);
        cells("bytes", sheeted("bytes", 10000 - 1 + 0, 0, 2, Edges.MAX, 1), -1, 0, 0, 0, 0, 0);
        cells("shorts", sheeted("shorts", 10000 + 999 - 999, 1, 2, 32767, 1), 999, -999, 0, 0, 0, 0);
        cells("shorts", sheeted("shorts", 10000 - 1 + 0 + 1, 1, 3, 65535, 1), -1, 0, 1, 0, 0, 0);
        cells("shorts", sheeted("shorts", 10000 - 999 + 999, 1, 2, -32768, -1), -999, 999, 0, 0, 0, 0);
        cells("shorts", sheeted("shorts", 10000 + 7 + 7, 1, 2, 7, 65536), 7, 7, 0, 0, 0, 0);
        cells("shorts", sheeted("shorts", 10000 + 998 + 999 + 999, 1, 3, 998, 1), 998, 999, 999, 0, 0, 0);
        cells("ints", sheeted("ints", 10000 + 998 + 999 + 999, 2, 3, 998, 1), 998, 999, 999, 0, 0, 0);
        cells("ints", sheeted("ints", 10000 - 998 - 999 - 999, 2, 3, -998, -1), -998, -999, -999, 0, 0, 0);
        cells("ints", sheeted("ints", 10000 + 999 - 999, 2, 2, 65536, -131072), 999, -999, 0, 0, 0, 0);
        cells("ints that wrap", sheeted("ints that wrap", 10000 + 999 - 999, 2, 2, Edges.MAX, 1), 999, -999, 0, 0, 0, 0);
        cells("ints that wrap", sheeted("ints that wrap", 10000 - 999 + 0 - 999 + 0, 2, 4, Edges.MIN, Edges.MIN), -999, 0, -999, 0, 0, 0);
        cells("all the greatest", sheeted("all the greatest", 10000 + 6 * 999, 2, 6, 999, 0), 999, 999, 999, 999, 999, 999);
        cells("all the least", sheeted("all the least", 10000 - 6 * 999, 2, 6, -999, 0), -999, -999, -999, -999, -999, -999);

        e.says("or a missing one (3): those behind it 0: 10000 and the sum of all.");
        cells("those behind it", sheeted("two", 10000 + 11, 2, 2, 5, 1), 5, 6, 0, 0, 0, 0);
        for (int kind = 0; kind < 3; kind++) {
            cells("an empty one", sheeted("an empty one", 10000, kind, 0, 5, 5), 0, 0, 0, 0, 0, 0);
        }

        e.says("-2: n below 0 (of kinds 0 .. 2; nothing changes);");
        for (int kind = 0; kind < 3; kind++) {
            for (int n : new int[] {-1, -2, Edges.MIN}) {
                int k = kind;
                e.refused(Edges::rich, "sheet(" + kind + ", " + n + ", 1, 1)", -2, s -> s.sheet(k, n, 1, 1));
            }
        }

        e.says("-3: missing (all become 0).");
        for (int n : new int[] {0, 6, -1, 3, Edges.MIN}) {
            cells("missing", sheeted("missing, n " + n, -3, 3, n, 5, 5), 0, 0, 0, 0, 0, 0);
        }
        TrailStore s = Edges.rich();
        e.due("missing", -3, s.sheet(3, 2, 5, 5));
        e.dueRow("missing leaves the ROW", s, 2, 3, 0, 0, 2);
        e.due("cells that were not 0 come to the TRAIL, by number", 4, s.trail(2));
        e.dueRow("trail(2)", s, 28, 0, 30, 5);

        e.says("NONE: another kind, n above 6 (these first).");
        for (int kind : new int[] {-1, 4, 5, Edges.MIN, Edges.MAX}) {
            for (int n : new int[] {0, 1, 6, 7, -1}) {
                e.refused(Edges::rich, "sheet(" + kind + ", " + n + ", 1, 1)", -1, t -> t.sheet(kind, n, 1, 1));
            }
        }
        for (int kind = 0; kind <= 3; kind++) {
            for (int n : new int[] {7, 8, Edges.MAX}) {
                int k = kind;
                e.refused(Edges::rich, "sheet(" + kind + ", " + n + ", 1, 1)", -1, t -> t.sheet(k, n, 1, 1));
            }
        }
    }

    public static void main(String[] args) throws Exception {
        e = new Edges(args[0]);
        promise1();
        promise2();
        promise3();
        promise4();
        promise5();
        promise6();
        promise7();
        promise8();
        e.end(1, 8);
    }
}
