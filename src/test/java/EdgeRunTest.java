/** The edges that promise 24 names: runs, told as texts. */
public final class EdgeRunTest {
    private static Edges e;

    /** Ahead of each act: A is 999, B is -999, C 50; v has 2 alone, w not 3, key 1 has 7, the others of the first eight 0. */
    private static TrailStore begun() {
        TrailStore s = new TrailStore();
        s.sets(0, 999);
        s.sets(1, -999);
        s.sets(2, 50);
        s.fixes(0, 2);
        s.removes(1, 3);
        for (int key = 0; key < 8; key++) {
            s.puts(key, key == 1 ? 7 : 0);
        }
        Edges.posts(s, "y#z");
        s.opens();
        s.many();
        return s;
    }

    /** One act: its answer, and how many THINGS it leaves otherwise. */
    private static TrailStore act(String text, int otherwise) {
        TrailStore s = begun();
        e.due("run() of " + text, 1, Edges.run(s, text));
        e.dueRow("run() of " + text, s, otherwise);
        e.due("THE TEXT behind " + text, 0, s.count(8));
        e.due("trail(1) behind " + text, otherwise, s.trail(1));
        return s;
    }

    /** One act that is refused: at the beginning, and behind others, which are undone. */
    private static void refusedAct(String text) {
        e.refused(EdgeRunTest::begun, "run() of " + text, -100, s -> Edges.run(s, text));
        e.refused(EdgeRunTest::begun, "run() behind acts of " + text, -100 - 13, s -> Edges.run(s, "D=05z-0k2=01p" + text));
        e.refused(EdgeRunTest::begun, "run() behind a block of " + text, -100 - 6, s -> Edges.run(s, "(D=05)" + text + "p"));
    }

    private static void acts() {
        e.says("THE TEXT tells a RUN: ACTS one behind another (none, too):");
        TrailStore none = begun();
        e.due("an empty text", 0, none.run());
        e.dueRow("an empty text", none, 0);
        e.due("80 signs", 20, Edges.run(begun(), "D=01".repeat(20)));
        e.due("80 acts", 80, Edges.run(begun(), "p".repeat(80)));

        e.says("A .. F and: =, + or - and two digits (sets(), adds() of so much, adds() of so much less);");
        e.due("A", 0, act("A=00", 1).cell(0));
        e.due("F", 99, act("F=99", 1).cell(5));
        e.due("F", 9, act("F+09", 1).cell(5));
        e.due("F", -90, act("F-90", 1).cell(5));
        e.due("C to what it is", 50, act("C=50", 0).cell(2));
        e.due("A and 0", 999, act("A+00", 0).cell(0));
        e.due("B less 0", -999, act("B-00", 0).cell(1));
        e.due("A less", 900, act("A-99", 1).cell(0));
        e.due("B and", -900, act("B+99", 1).cell(1));
        refusedAct("A+01");
        refusedAct("A+99");
        refusedAct("B-01");
        TrailStore edge = begun();
        edge.sets(3, 998);
        edge.sets(4, -998);
        e.due("to the greatest and the least", 2, Edges.run(edge, "D+01E-01"));
        e.due("beyond the greatest", -100, Edges.run(edge, "D+01"));
        e.due("beyond the least", -100, Edges.run(edge, "E-01"));

        e.says("v .. z and: -, = and a digit 0 .. 5 (removes(), fixes()), < and a digit 0 .. 5 (limits() to 0 .. that), "
                + "> and a digit 0 .. 5 (limits() to that .. 5);");
        e.due("z without 5", 31, act("z-5", 1).values(4));
        e.due("w without 0", 63 & ~8 & ~1, act("w-0", 1).values(1));
        refusedAct("w-3");
        refusedAct("v-2");
        refusedAct("v-5");
        e.due("w alone", 32, act("w=5", 1).values(1));
        e.due("v as it is", 4, act("v=2", 0).values(0));
        refusedAct("w=3");
        refusedAct("v=0");
        e.due("z up to 0", 1, act("z<0", 1).values(4));
        e.due("z up to 4", 31, act("z<4", 1).values(4));
        e.due("z up to 5", 63, act("z<5", 0).values(4));
        e.due("v up to 2", 4, act("v<2", 0).values(0));
        refusedAct("v<1");
        refusedAct("v<0");
        e.due("z from 5 on", 32, act("z>5", 1).values(4));
        e.due("z from 1 on", 62, act("z>1", 1).values(4));
        e.due("z from 0 on", 63, act("z>0", 0).values(4));
        e.due("v from 2 on", 4, act("v>2", 0).values(0));
        refusedAct("v>3");
        refusedAct("v>5");
    }

    private static void keysAndQuestions() {
        e.says("k, a digit, = and two digits (puts()); k, a digit and - (drops());");
        e.due("the first of 8", 99, act("k0=99", 1).pair(0, 1));
        e.due("the last of 8", 1, act("k7=01", 1).pair(7, 1));
        e.due("the number that it has", 7, act("k1=07", 0).pair(1, 1));
        refusedAct("k8=00");
        refusedAct("k9=99");
        e.due("the first of 8 goes", 1, act("k0-", 1).pair(0, 0));
        e.due("the last of 8 goes", 7, act("k7-", 1).count(2));
        refusedAct("k8-");
        refusedAct("k9-");
        TrailStore s = begun();
        e.due("one goes, a ninth comes", 2, Edges.run(s, "k0-k9=00"));
        e.due("behind all", 9, s.pair(7, 0));

        e.says("p (spreads());");
        TrailStore t = begun();
        t.fixes(3, 0);
        e.due("spreads", 1, Edges.run(t, "p"));
        e.due("values(4)", 62, t.values(4));
        e.refused(EdgeRunTest::hopeless, "what FAILS", -103, u -> Edges.run(u, "z-5p"));

        e.says("?, A .. F, one of < = > and two digits (refused, if the number of the CELL is not below that, that, above that);");
        for (String so : new String[] {"?C<51", "?C=50", "?C>49", "?B<00", "?A>99", "?F=00", "?F<01", "?B<99"}) {
            act(so, 0);
        }
        for (String not : new String[] {"?C<50", "?C<49", "?C=49", "?C=51", "?C>50", "?C>51", "?B>00", "?B=99", "?A<99", "?F>00", "?F<00"}) {
            refusedAct(not);
        }
        e.says("?, v .. z and a digit 0 .. 5 (refused, if the VALUE is not there);");
        for (String so : new String[] {"?v2", "?w2", "?w4", "?z0", "?z5", "?y5"}) {
            act(so, 0);
        }
        for (String not : new String[] {"?v0", "?v1", "?v3", "?v5", "?w3"}) {
            refusedAct(not);
        }
        e.says("?, k and a digit (refused, if the KEY is not there);");
        act("?k0", 0);
        act("?k7", 0);
        refusedAct("?k8");
        refusedAct("?k9");
    }

    private static TrailStore hopeless() {
        TrailStore s = begun();
        s.limits(3, 0, 0);
        s.removes(4, 2);
        Edges.posts(s, "z<y");
        s.trail(1);
        return s;
    }

    private static final String FIRST = "ABCDEFvwxyzkp?([{";

    /** Behind these signs these alone can stand; whole: the text may end there, too. */
    private static void nextSign(String signs, boolean whole, String allowed) {
        int p = signs.length();
        int end = Edges.run(begun(), signs);
        e.due("its end behind " + signs, whole, end != -1 - p);
        if (whole && end < 0) {
            e.due("refused or done: " + signs, true, end <= -100);
        }
        for (char sign = 0; sign < 256; sign++) {
            int got = Edges.run(new TrailStore(), signs + sign);
            boolean stands = allowed.indexOf(sign) >= 0;
            e.due("the sign " + (int) sign + " behind " + signs, stands, got != -1 - p);
            if (stands && got < 0 && got > -100) {
                e.due("its end behind " + signs + sign, -2 - p, got);
            }
        }
    }

    private static void faults() {
        e.says("-1 - p: the sign at p can't stand there (its end, if it ends too early); nothing is done then.");
        String digits = "0123456789";
        nextSign("", true, FIRST);
        nextSign("A", false, "=+-");
        nextSign("F", false, "=+-");
        for (String how : new String[] {"A=", "C+", "F-", "k0=", "k9=", "?A<", "?C=", "?F>"}) {
            nextSign(how, false, digits);
            nextSign(how + "0", false, digits);
            nextSign(how + "99", true, FIRST);
        }
        nextSign("v", false, "-=<>");
        nextSign("z", false, "-=<>");
        for (String how : new String[] {"v-", "w=", "x<", "z>", "?v", "?z"}) {
            nextSign(how, false, "012345");
            nextSign(how + "5", true, FIRST);
        }
        nextSign("k", false, digits);
        nextSign("k0", false, "=-");
        nextSign("k9", false, "=-");
        nextSign("k9-", true, FIRST);
        nextSign("p", true, FIRST);
        nextSign("?", false, "ABCDEFvwxyzk");
        nextSign("?A", false, "<=>");
        nextSign("?F", false, "<=>");
        nextSign("?k", false, digits);
        nextSign("?k0", true, FIRST);
        faultsOfBlocks();
        for (String text : new String[] {"D=05z-0k2-p*", "D=05(z-0", "D=05A+01)", "D=05[A+01]}"}) {
            int p = text.equals("D=05(z-0") ? 8 : text.length() - 1;
            e.refused(EdgeRunTest::begun, "nothing of " + text, -1 - p, s -> Edges.run(s, text));
        }
        e.due("80 signs that end too early", -1 - 80, Edges.run(begun(), "D=01".repeat(19) + "?k0("));
        e.due("the last of 80 signs", -1 - 79, Edges.run(begun(), "D=01".repeat(19) + "?k0*"));
        e.refused(EdgeRunTest::begun, "the last of 80, behind 79 ACTS", -1 - 79, s -> Edges.run(s, "D+01" + "p".repeat(75) + "*"));
        e.refused(EdgeRunTest::begun, "the last of 80, behind 79 of one sign", -1 - 79, s -> Edges.run(s, "p".repeat(79) + "*"));
        e.refused(EdgeRunTest::begun, "80 that end too early, behind 79 of one sign", -1 - 80, s -> Edges.run(s, "p".repeat(79) + "("));
    }

    private static void faultsOfBlocks() {
        nextSign("(", false, FIRST + ")");
        nextSign("[", false, FIRST + "]");
        nextSign("{", false, FIRST + "}|");
        nextSign("(p", false, FIRST + ")");
        nextSign("[p", false, FIRST + "]");
        nextSign("{p", false, FIRST + "}|");
        nextSign("{p|", false, FIRST + "}|");
        nextSign("{|p", false, FIRST + "}|");
        nextSign("()", true, FIRST);
        nextSign("[]", true, FIRST);
        nextSign("{}", true, FIRST);
        nextSign("{|}", true, FIRST);
        nextSign("{(", false, FIRST + ")");
        nextSign("({p|[p]", false, FIRST + "}|");
        nextSign("([])", true, FIRST);
        e.says("BLOCKS (at most 4 in one another): ( RUN ), [ RUN ], { RUN }, { RUN | RUN }, { RUN | RUN | RUN }, .. (without blanks).");
        String acts = FIRST.replaceAll("[(\\[{]", "");
        nextSign("(((", false, FIRST + ")");
        nextSign("((((", false, acts + ")");
        nextSign("[[[[", false, acts + "]");
        nextSign("{{{{", false, acts + "}|");
        nextSign("([{(", false, acts + ")");
        nextSign("{|{|{|{|", false, acts + "}|");
        nextSign("((((p)", false, FIRST + ")");
        nextSign("((((p))))", true, FIRST);
        e.due("four in one another, side by side", 4, Edges.run(begun(), "((((p))))((((p)p)p))"));
        e.due("four of each sort", 1, Edges.run(begun(), "{(({?k9|p}))|p}[([{p}])]"));
        e.due("many runs", 1, Edges.run(begun(), "{?k9|?k8|?k9|?k8|?k9|?k8|?k9|?k8|?k9|?k8|?k9|p|?k9|p}"));
        e.due("a blank", -1 - 1, Edges.run(begun(), "( p)"));
    }

    private static void doing() {
        e.says("ACTS are done one by one. One that answers below 0 is refused; so is a BLOCK, ( ) too, that comes while 9 LEVELS are open.");
        TrailStore s = begun();
        e.due("one by one", 5, Edges.run(s, "D=05D+05?D=10D-10?D=00"));
        e.dueRow("as it was again", s, 0);
        e.due("CHANGED all the same", 1, s.trail(1));
        for (String block : new String[] {"()", "[]", "{}", "{|}", "(p)", "{p|p}", "(?k9)"}) {
            e.refused(EdgeRunTest::withoutText, "behind 9 levels " + block, -100, t -> Edges.run(t, block));
            e.refused(EdgeRunTest::withoutText, "behind 9 levels, behind acts " + block, -100 - 5, t -> Edges.run(t, "D=05p" + block));
        }
        TrailStore nine = withoutText();
        e.due("acts alone", 1, Edges.run(nine, "D=05"));
        for (int open = 5; open <= 9; open++) {
            // a ( ) that is refused is an act of the RUN around it, which is not DONE then, and goes on behind that block
            TrailStore t = Edges.opened(new TrailStore(), open);
            int free = 9 - open;
            int done = free == 4 ? 4 : free == 0 ? -100 : free - 1;
            e.due("( ) in one another behind " + open + " levels", done, Edges.run(t, "(A+01(A+01(A+01(A+01))))"));
            e.due("count(0)", open, t.count(0));
            e.due("cell(0)", Math.max(0, done), t.cell(0));
        }
    }

    private static TrailStore withoutText() {
        TrailStore s = Edges.full();
        s.end(0);
        return s;
    }

    private static void blocks() {
        e.says("A RUN of a BLOCK is done in a LEVEL opened for it; if an ACT or a BLOCK of it is refused, its LEVEL is closed, "
                + "and it is not DONE; else it is DONE.");
        TrailStore s = begun();
        e.due("closed, with what was done ahead of the refusal", 1, Edges.run(s, "(D=05k0-k0=01z-0?k9E=01)p"));
        e.dueRow("closed", s, 0);
        e.due("PAIRS in the order they had", 0, s.pair(0, 0));
        e.due("a closed LEVEL leaves no TRAIL", 0, s.trail(1));
        e.due("refused by a BLOCK of it", 1, Edges.run(s, "(D=05[?k9]E=01)p"));
        e.due("cell(3)", 0, s.cell(3));
        e.due("no LEVEL stays", 1, s.count(0));

        e.says("{ }: its RUNS are tried one by one, till one is DONE, the LEVEL of which is committed; if none is, the BLOCK is refused.");
        TrailStore t = begun();
        e.due("the first", 2, Edges.run(t, "{D=05E=05|F=05}"));
        e.due("no other is tried", 0, t.cell(5));
        t.trail(1);
        e.dueRow("committed", t, 3, 4);
        e.due("the second, from what was ahead", 2, Edges.run(t, "{D=09?k9|?D=05F=01|F=02}"));
        e.due("cell(5)", 1, t.cell(5));
        e.due("the last", 1, Edges.run(t, "{?k9|?k8|F=03}"));
        e.due("cell(5)", 3, t.cell(5));
        e.due("an empty RUN is DONE", 0, Edges.run(t, "{?k9||F=04}"));
        e.due("cell(5)", 3, t.cell(5));
        e.refused(EdgeRunTest::begun, "none is DONE", -100, u -> Edges.run(u, "{D=05?k9|E=05?k8}"));
        e.refused(EdgeRunTest::begun, "none is DONE", -104, u -> Edges.run(u, "D=05{?k9}"));
        e.due("bars of blocks in it are theirs", 1, Edges.run(t, "{{?k9|?k8}F=07|F=08}"));
        e.due("cell(5)", 8, t.cell(5));

        e.says("( ): if its RUN is DONE, its LEVEL is committed; if not, it goes on behind the BLOCK.");
        TrailStore u = begun();
        e.due("DONE", 3, Edges.run(u, "(E=05D=05)F=05"));
        u.trail(1);
        e.dueRow("committed", u, 4, 3, 5);
        e.due("not DONE", 1, Edges.run(u, "(E=06?k9)F=06"));
        e.due("cell(4)", 5, u.cell(4));
        e.due("cell(5)", 6, u.cell(5));
        e.due("behind a BLOCK with BLOCKS in it", 1, Edges.run(u, "(([E=07]){(E=08)|E=09}?k9)F=07"));
        e.due("cell(5)", 7, u.cell(5));

        e.says("[ ]: if its RUN is DONE, its LEVEL is closed; if not, the BLOCK is refused.");
        TrailStore v = begun();
        e.due("DONE", 1, Edges.run(v, "[D=05?D=05k0-]E=05"));
        e.due("closed", 0, v.cell(3));
        e.due("closed", 8, v.count(2));
        v.trail(1);
        e.dueRow("a closed LEVEL leaves no TRAIL", v, 4);
        e.due("an empty one", 0, Edges.run(v, "[]"));
        e.refused(EdgeRunTest::begun, "not DONE", -104, w -> Edges.run(w, "D=05[E=05?k9]"));
        e.due("what would not be", 1, Edges.run(v, "{[?k9]E=06|E=07}"));
        e.due("cell(4)", 7, v.cell(4));
    }

    private static void answers() {
        e.says("How many ACTS (in BLOCKS, too; BLOCKS aside) were done and not undone; the ROW: how many THINGS are OTHERWISE than ahead of it.");
        TrailStore s = begun();
        e.due("blocks aside", 0, Edges.run(s, "(){}[](({}))"));
        e.due("in BLOCKS, too", 4, Edges.run(s, "p(p{p|p}p)"));
        e.due("undone ones aside", 1, Edges.run(s, "[ppp](pp?k9)p{p?k9|}"));
        e.due("undone by a block around", 1, Edges.run(s, "((p)p{p}?k9)p"));
        e.due("undone by [ ] around", 0, Edges.run(s, "[(p)p{p}]"));
        e.due("what changes nothing counts", 3, Edges.run(s, "C=50?k0z<5"));
        e.dueRow("what changes nothing counts", s, 0);
        e.due("all sorts", 5, Edges.run(s, "D=01D=02v=2k0-y=0"));
        e.dueRow("all sorts", s, 3);
        TrailStore t = new TrailStore();
        e.due("without a LEVEL", 3, Edges.run(t, "(A=01)B=01{v-0}"));
        e.dueRow("without a LEVEL", t, 3);
        e.due("count(5)", 0, t.count(5));
        e.due("count(0)", 0, t.count(0));

        e.says("-100 - p: an ACT, or a BLOCK, that is in no BLOCK and begins at p was refused: all (TRAILS, too) is as ahead of the call.");
        e.refused(EdgeRunTest::begun, "an ACT at 0", -100, u -> Edges.run(u, "?k9p"));
        e.refused(EdgeRunTest::begun, "an ACT behind a BLOCK", -100 - 9, u -> Edges.run(u, "(D=05)k0-?k9"));
        e.refused(EdgeRunTest::begun, "the BLOCK, not what is in it", -100 - 1, u -> Edges.run(u, "p{D=05[p?k9]}p"));
        e.refused(EdgeRunTest::begun, "the ACT at 77 of 80", -100 - 77, u -> Edges.run(u, "D=01".repeat(18) + "ppppp?k9"));
        e.refused(EdgeRunTest::hopeless, "the ACT at 79 of 80", -100 - 79, u -> Edges.run(u, "D=01".repeat(19) + "?k0p"));
        e.refused(EdgeRunTest::stairs, "TRAILS, too", -100 - 20, u -> Edges.run(u, "(A=09B=09)C=09(D=09)?k9"));
    }

    /** Two LEVELS with TRAILS of some THINGS that the run changes, too. */
    private static TrailStore stairs() {
        TrailStore s = new TrailStore();
        s.opens();
        s.sets(3, 1);
        s.sets(0, 1);
        s.opens();
        s.sets(1, 1);
        s.trail(1);
        return s;
    }

    public static void main(String[] args) throws Exception {
        e = new Edges(args[0]);
        e.promise(24);
        acts();
        keysAndQuestions();
        faults();
        doing();
        blocks();
        answers();
        e.end(24, 24);
    }
}
