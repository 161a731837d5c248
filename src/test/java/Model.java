import java.util.ArrayList;
import java.util.Arrays;
import java.util.LinkedHashMap;
import java.util.LinkedHashSet;
import java.util.List;
import java.util.Map;
import java.util.NoSuchElementException;
import java.util.TreeMap;
import java.util.TreeSet;

/**
 * The document once more, written as plainly as the library allows and in other ways than TrailStore: copies
 * instead of trails, all rows tried instead of Hall sets, a tree instead of a walk through the text. It has the
 * face of TrailStore, so that ModelTest can put the two side by side.
 */
public final class Model {
    /** A constraint tells which variables it has and whether it holds. */
    record Rule(int sort, int x, int y, int d) {
        List<Integer> variables() {
            if (sort != 3) {
                return List.of(x, y);
            }
            List<Integer> in = new ArrayList<>();
            for (int i = 0; i < 5; i++) {
                if ((x & 1 << i) != 0) {
                    in.add(i);
                }
            }
            return in;
        }

        boolean holds(Integer[] row) {
            switch (sort) {
                case 0:
                    return row[x] < row[y] + d;
                case 1:
                    return row[x] == row[y] + d;
                case 2:
                    return row[x] != row[y] + d;
                default:
                    TreeSet<Integer> seen = new TreeSet<>();
                    for (int i : variables()) {
                        seen.add(row[i]);
                    }
                    return seen.size() == variables().size();
            }
        }
    }

    static final class State {
        int[] cells = new int[6];
        List<TreeSet<Integer>> variables = new ArrayList<>();
        LinkedHashMap<Integer, Integer> pairs = new LinkedHashMap<>();
        List<Rule> rules = new ArrayList<>();

        State() {
            for (int x = 0; x < 5; x++) {
                variables.add(new TreeSet<>(List.of(0, 1, 2, 3, 4, 5)));
            }
        }

        State copy() {
            State c = new State();
            c.cells = cells.clone();
            c.variables = copyOf(variables);
            c.pairs = new LinkedHashMap<>(pairs);
            c.rules = new ArrayList<>(rules);
            return c;
        }

        Map<Integer, Object> things() {
            Map<Integer, Object> all = new TreeMap<>();
            for (int i = 0; i < 6; i++) {
                all.put(i, cells[i]);
            }
            for (int x = 0; x < 5; x++) {
                all.put(10 + x, new TreeSet<>(variables.get(x)));
            }
            for (int k = 0; k < 10; k++) {
                all.put(20 + k, pairs.containsKey(k) ? "number " + pairs.get(k) : "gone");
            }
            all.put(30, new ArrayList<>(rules));
            return all;
        }

        TreeSet<Integer> otherwise(State other) {
            TreeSet<Integer> out = new TreeSet<>();
            Map<Integer, Object> mine = things();
            Map<Integer, Object> theirs = other.things();
            for (int t : mine.keySet()) {
                if (!mine.get(t).equals(theirs.get(t))) {
                    out.add(t);
                }
            }
            return out;
        }
    }

    static final class Level {
        State opened;
        LinkedHashSet<Integer> trail = new LinkedHashSet<>();

        Level(State opened) {
            this.opened = opened.copy();
        }

        Level copy() {
            Level c = new Level(opened);
            c.trail = new LinkedHashSet<>(trail);
            return c;
        }
    }

    private State now = new State();
    private List<Level> levels = new ArrayList<>();
    private String text = "";
    private List<Long> told = new ArrayList<>();
    private final List<int[]> hearsay = new ArrayList<>();
    private final State[] kept = new State[2];

    private static List<TreeSet<Integer>> copyOf(List<TreeSet<Integer>> from) {
        List<TreeSet<Integer>> to = new ArrayList<>();
        for (TreeSet<Integer> s : from) {
            to.add(new TreeSet<>(s));
        }
        return to;
    }

    private void tell(long... numbers) {
        told = new ArrayList<>();
        for (long n : numbers) {
            told.add(n);
        }
    }

    private void tellAll(Iterable<Integer> numbers) {
        tell();
        for (int n : numbers) {
            told.add((long) n);
        }
    }

    private void tellRow(Integer[] row) {
        tellAll(Arrays.asList(row));
    }

    private static int bits(Iterable<Integer> set) {
        int b = 0;
        for (int v : set) {
            b |= 1 << v;
        }
        return b;
    }

    private static boolean in(int v, int low, int high) {
        return low <= v && v <= high;
    }

    private static boolean isThing(int t) {
        return new State().things().containsKey(t);
    }

    /** What came of an act goes on the trail of the latest level. */
    private void note(State before) {
        if (!levels.isEmpty()) {
            levels.get(levels.size() - 1).trail.addAll(now.otherwise(before));
        }
    }

    // ---- things

    public int sign(int v) {
        if (text.length() + 4 > 80) {
            return -1;
        }
        text = text + (char) (v >> 24 & 255) + (char) (v >> 16 & 255) + (char) (v >> 8 & 255) + (char) (v & 255);
        return text.length();
    }

    public boolean end(int n) {
        if (n < 0 || n > text.length()) {
            return false;
        }
        text = text.substring(0, n);
        return true;
    }

    public int cell(int i) {
        if (!in(i, 0, 5)) {
            throw new NoSuchElementException();
        }
        return now.cells[i];
    }

    public int values(int x) {
        if (!in(x, 0, 4)) {
            throw new NoSuchElementException();
        }
        return bits(now.variables.get(x));
    }

    public int pair(int i, int what) {
        if (!in(i, 0, now.pairs.size() - 1) || !in(what, 0, 1)) {
            throw new NoSuchElementException();
        }
        int key = new ArrayList<>(now.pairs.keySet()).get(i);
        return what == 0 ? key : now.pairs.get(key);
    }

    public int constraint(int i, int what) {
        if (!in(i, 0, now.rules.size() - 1) || !in(what, 0, 3)) {
            throw new NoSuchElementException();
        }
        Rule r = now.rules.get(i);
        return new int[] {r.sort, r.x, r.y, r.d}[what];
    }

    public int sheet(int kind, int n, int f, int step) {
        if (!in(kind, 0, 3) || n > 6) {
            return -1;
        }
        if (kind != 3 && n < 0) {
            return -2;
        }
        State before = now.copy();
        now.cells = new int[6];
        int entry = f;
        int sum = 0;
        for (int i = 0; i < n && kind != 3; i++) {
            int v = entry;
            if (kind == 0) {
                v = (byte) v;
            }
            if (kind == 1) {
                v = (short) v;
            }
            v = v > 999 ? 999 : v < -999 ? -999 : v;
            now.cells[i] = v;
            sum += v;
            entry += step;
        }
        note(before);
        return kind == 3 ? -3 : 10000 + sum;
    }

    // ---- what is done

    public int sets(int i, int v) {
        if (!in(i, 0, 5) || !in(v, -999, 999)) {
            return -1;
        }
        State before = now.copy();
        now.cells[i] = v;
        note(before);
        return 1000 + before.cells[i];
    }

    public int adds(int i, int by) {
        if (!in(i, 0, 5)) {
            return -1;
        }
        long v = (long) by + now.cells[i];
        if (v < -999 || v > 999) {
            return -2;
        }
        sets(i, (int) v);
        return 1000 + (int) v;
    }

    public int removes(int x, int v) {
        if (!in(x, 0, 4) || !in(v, 0, 5)) {
            return -1;
        }
        if (!now.variables.get(x).contains(v)) {
            return -2;
        }
        if (now.variables.get(x).size() == 1) {
            return -3;
        }
        State before = now.copy();
        now.variables.get(x).remove(v);
        note(before);
        return now.variables.get(x).size();
    }

    public int fixes(int x, int v) {
        if (!in(x, 0, 4) || !in(v, 0, 5)) {
            return -1;
        }
        return limits(x, v, v);
    }

    public int limits(int x, int low, int high) {
        if (!in(x, 0, 4) || !in(low, 0, 5) || !in(high, 0, 5)) {
            return -1;
        }
        TreeSet<Integer> rest = new TreeSet<>();
        for (int v : now.variables.get(x)) {
            if (low <= v && v <= high) {
                rest.add(v);
            }
        }
        if (rest.isEmpty()) {
            return -2;
        }
        State before = now.copy();
        now.variables.set(x, rest);
        note(before);
        return before.variables.get(x).size() - rest.size();
    }

    public int renews(int x) {
        if (!in(x, 0, 4)) {
            return -1;
        }
        if (!levels.isEmpty()) {
            return -2;
        }
        int had = now.variables.get(x).size();
        now.variables.get(x).addAll(List.of(0, 1, 2, 3, 4, 5));
        return 6 - had;
    }

    public int puts(int key, int v) {
        if (!in(key, 0, 9) || !in(v, -999, 999)) {
            return -1;
        }
        if (!now.pairs.containsKey(key) && now.pairs.size() == 8) {
            return -2;
        }
        State before = now.copy();
        now.pairs.put(key, v);
        note(before);
        return new ArrayList<>(now.pairs.keySet()).indexOf(key);
    }

    public int drops(int key) {
        if (!in(key, 0, 9)) {
            return -1;
        }
        if (!now.pairs.containsKey(key)) {
            return -2;
        }
        int place = new ArrayList<>(now.pairs.keySet()).indexOf(key);
        State before = now.copy();
        now.pairs.remove(key);
        note(before);
        return place;
    }

    static final class Fault extends RuntimeException {
        private static final long serialVersionUID = 1L;
        final int at;

        Fault(int at) {
            super("fault", null, false, false);
            this.at = at;
        }
    }

    /** Takes signs one by one, and throws a Fault at the first that is not wanted. */
    private final class Reader {
        final String signs = text;
        int p;

        boolean ended() {
            return p == signs.length();
        }

        boolean sees(String wanted) {
            return p < signs.length() && wanted.indexOf(signs.charAt(p)) >= 0;
        }

        int take(String wanted) {
            if (!sees(wanted)) {
                throw new Fault(p);
            }
            return wanted.indexOf(signs.charAt(p++));
        }

        int two() {
            return 10 * take("0123456789") + take("0123456789");
        }
    }

    private List<Rule> readRules() {
        Reader r = new Reader();
        List<Rule> out = new ArrayList<>();
        if (r.ended()) {
            return out;
        }
        while (true) {
            if (r.sees("!")) {
                r.take("!");
                StringBuilder free = new StringBuilder("vwxyz");
                int set = 0;
                int n = 0;
                while (n < 2 || r.sees(free.toString())) {
                    char c = free.charAt(r.take(free.toString()));
                    set |= 1 << c - 'v';
                    free.deleteCharAt(free.indexOf(String.valueOf(c)));
                    n++;
                }
                out.add(new Rule(3, set, 0, 0));
            } else {
                int x = r.take("vwxyz");
                int sort = r.take("<=#");
                String others = "vwxyz".replace(String.valueOf((char) ('v' + x)), "");
                int y = others.charAt(r.take(others)) - 'v';
                int d = 0;
                if (r.sees("+-")) {
                    int sign = r.take("+-") == 0 ? 1 : -1;
                    d = sign * r.take("0123456789");
                }
                out.add(new Rule(sort, x, y, d));
            }
            if (r.ended()) {
                return out;
            }
            r.take(",");
        }
    }

    public int posts() {
        List<Rule> fresh;
        try {
            fresh = readRules();
        } catch (Fault f) {
            return -1 - f.at;
        } finally {
            text = "";
        }
        if (now.rules.size() + fresh.size() > 8) {
            return -100;
        }
        State before = now.copy();
        now.rules.addAll(fresh);
        note(before);
        return fresh.size();
    }

    public int lifts(int i) {
        if (!in(i, 0, now.rules.size() - 1)) {
            return -1;
        }
        State before = now.copy();
        now.rules.remove(i);
        note(before);
        return now.rules.size();
    }

    private static boolean borne(Rule rule, List<Integer> others, Integer[] row, List<TreeSet<Integer>> left) {
        if (others.isEmpty()) {
            return rule.holds(row);
        }
        int x = others.get(0);
        for (int v : left.get(x)) {
            row[x] = v;
            if (borne(rule, others.subList(1, others.size()), row, left)) {
                return true;
            }
        }
        return false;
    }

    /** What is left behind spreading with some rules; null: it fails. */
    private static List<TreeSet<Integer>> spread(List<TreeSet<Integer>> from, List<Rule> rules) {
        List<TreeSet<Integer>> left = copyOf(from);
        boolean more = true;
        while (more) {
            more = false;
            for (Rule rule : rules) {
                for (int x : rule.variables()) {
                    for (int v : new ArrayList<>(left.get(x))) {
                        List<Integer> others = new ArrayList<>(rule.variables());
                        others.remove(Integer.valueOf(x));
                        Integer[] row = new Integer[5];
                        row[x] = v;
                        if (!borne(rule, others, row, left)) {
                            left.get(x).remove(v);
                            more = true;
                        }
                    }
                    if (left.get(x).isEmpty()) {
                        return null;
                    }
                }
            }
        }
        return left;
    }

    private static int size(List<TreeSet<Integer>> left) {
        int sum = 0;
        for (TreeSet<Integer> s : left) {
            sum += s.size();
        }
        return sum;
    }

    public int spreads() {
        List<TreeSet<Integer>> left = spread(now.variables, now.rules);
        if (left == null) {
            return -2;
        }
        State before = now.copy();
        now.variables = left;
        note(before);
        return size(before.variables) - size(left);
    }

    public int opens() {
        if (levels.size() == 9) {
            return -2;
        }
        levels.add(new Level(now));
        return levels.size();
    }

    private void close() {
        now = levels.remove(levels.size() - 1).opened;
    }

    public int closes() {
        if (levels.isEmpty()) {
            return -2;
        }
        State before = now.copy();
        close();
        tell(now.otherwise(before).size());
        return levels.size();
    }

    public int back(int n) {
        if (!in(n, 0, levels.size())) {
            return -1;
        }
        State before = now.copy();
        int closed = 0;
        while (levels.size() > n) {
            close();
            closed++;
        }
        tell(now.otherwise(before).size());
        return closed;
    }

    public int commits() {
        if (levels.isEmpty()) {
            return -2;
        }
        LinkedHashSet<Integer> gone = levels.remove(levels.size() - 1).trail;
        if (levels.isEmpty()) {
            tell(0, 0);
            return 0;
        }
        LinkedHashSet<Integer> below = levels.get(levels.size() - 1).trail;
        int both = 0;
        for (int t : gone) {
            if (!below.add(t)) {
                both++;
            }
        }
        tell(below.size(), both);
        return levels.size();
    }

    /** A part of a RUN: an act (kind a) with its numbers, or a block ( [ { with its RUNS. */
    private static final class Part {
        char kind;
        int at;
        int[] act;
        List<List<Part>> runs = new ArrayList<>();
    }

    private static final String DIGITS = "0123456789";

    private List<Part> readRun(Reader r, int nested) {
        List<Part> parts = new ArrayList<>();
        while (!r.ended() && !r.sees(")]}|")) {
            Part part = new Part();
            part.at = r.p;
            if (r.sees(nested < 4 ? "([{" : "")) {
                part.kind = "([{".charAt(r.take("([{"));
                part.runs.add(readRun(r, nested + 1));
                while (part.kind == '{' && r.sees("|")) {
                    r.take("|");
                    part.runs.add(readRun(r, nested + 1));
                }
                r.take(part.kind == '(' ? ")" : part.kind == '[' ? "]" : "}");
            } else {
                part.kind = 'a';
                part.act = readAct(r);
            }
            parts.add(part);
        }
        return parts;
    }

    private static int[] readAct(Reader r) {
        if (r.sees("ABCDEF")) {
            int i = r.take("ABCDEF");
            int how = r.take("=+-");
            return new int[] {how, i, r.two()};
        }
        if (r.sees("vwxyz")) {
            int x = r.take("vwxyz");
            int how = r.take("-=<>");
            return new int[] {3 + how, x, r.take("012345")};
        }
        if (r.sees("k")) {
            r.take("k");
            int key = r.take(DIGITS);
            return r.take("=-") == 0 ? new int[] {7, key, r.two()} : new int[] {8, key};
        }
        if (r.sees("?")) {
            r.take("?");
            if (r.sees("ABCDEF")) {
                int i = r.take("ABCDEF");
                int how = r.take("<=>");
                return new int[] {10 + how, i, r.two()};
            }
            if (r.sees("vwxyz")) {
                int x = r.take("vwxyz");
                return new int[] {13, x, r.take("012345")};
            }
            r.take("k");
            return new int[] {14, r.take(DIGITS)};
        }
        r.take("p");
        return new int[] {9};
    }

    private boolean doAct(int[] a) {
        switch (a[0]) {
            case 0: return sets(a[1], a[2]) >= 0;
            case 1: return adds(a[1], a[2]) >= 0;
            case 2: return adds(a[1], -a[2]) >= 0;
            case 3: return removes(a[1], a[2]) >= 0;
            case 4: return fixes(a[1], a[2]) >= 0;
            case 5: return limits(a[1], 0, a[2]) >= 0;
            case 6: return limits(a[1], a[2], 5) >= 0;
            case 7: return puts(a[1], a[2]) >= 0;
            case 8: return drops(a[1]) >= 0;
            case 9: return spreads() >= 0;
            case 10: return now.cells[a[1]] < a[2];
            case 11: return now.cells[a[1]] == a[2];
            case 12: return now.cells[a[1]] > a[2];
            case 13: return now.variables.get(a[1]).contains(a[2]);
            default: return now.pairs.containsKey(a[1]);
        }
    }

    /** How many acts came of it and stay; -1: refused. */
    private int doPart(Part part) {
        if (part.kind == 'a') {
            return doAct(part.act) ? 1 : -1;
        }
        if (levels.size() == 9) {
            return -1;
        }
        for (List<Part> run : part.runs) {
            opens();
            int done = doRun(run)[0];
            if (done < 0) {
                close();
            } else if (part.kind == '[') {
                close();
                return 0;
            } else {
                List<Long> row = told;
                commits();
                told = row;
                return done;
            }
        }
        return part.kind == '(' ? 0 : -1;
    }

    /** How many acts, or -1 and where the refused one began. */
    private int[] doRun(List<Part> run) {
        int done = 0;
        for (Part part : run) {
            int n = doPart(part);
            if (n < 0) {
                return new int[] {-1, part.at};
            }
            done += n;
        }
        return new int[] {done};
    }

    public int run() {
        List<Part> all;
        try {
            Reader r = new Reader();
            all = readRun(r, 0);
            if (!r.ended()) {
                throw new Fault(r.p);
            }
        } catch (Fault f) {
            return -1 - f.at;
        } finally {
            text = "";
        }
        State before = now.copy();
        List<Level> were = new ArrayList<>();
        for (Level l : levels) {
            were.add(l.copy());
        }
        int[] done = doRun(all);
        if (done[0] < 0) {
            now = before;
            levels = were;
            return -100 - done[1];
        }
        tell(now.otherwise(before).size());
        return done[0];
    }

    // ---- as it was

    private boolean open(int d) {
        return in(d, 1, levels.size());
    }

    public int was(int d, int thing) {
        if (!open(d) || !isThing(thing)) {
            return -1;
        }
        State s = levels.get(d - 1).opened;
        if (thing < 10) {
            return 1000 + s.cells[thing];
        }
        if (thing < 20) {
            return bits(s.variables.get(thing - 10));
        }
        if (thing < 30) {
            return s.pairs.containsKey(thing - 20) ? 1000 + s.pairs.get(thing - 20) : 0;
        }
        return s.rules.size();
    }

    public int trail(int d) {
        if (!open(d)) {
            return -1;
        }
        tellAll(levels.get(d - 1).trail);
        return told.size();
    }

    public int since(int thing) {
        if (!isThing(thing)) {
            return -1;
        }
        TreeSet<Integer> on = new TreeSet<>();
        for (int d = 1; d <= levels.size(); d++) {
            if (levels.get(d - 1).trail.contains(thing)) {
                on.add(d);
            }
        }
        tell(on.size());
        return bits(on);
    }

    public int would(int n) {
        if (!in(n, 0, levels.size())) {
            return -1;
        }
        tellAll(now.otherwise(n < levels.size() ? levels.get(n).opened : now));
        return told.size();
    }

    public int between(int d, int e) {
        if (!open(d) || !open(e)) {
            return -1;
        }
        tellAll(levels.get(e - 1).opened.otherwise(levels.get(d - 1).opened));
        return told.size();
    }

    // ---- solutions

    private List<Integer[]> solutions(List<Rule> rules) {
        List<Integer[]> out = new ArrayList<>();
        List<TreeSet<Integer>> left = now.variables;
        for (int a : left.get(0)) {
            for (int b : left.get(1)) {
                for (int c : left.get(2)) {
                    for (int d : left.get(3)) {
                        for (int e : left.get(4)) {
                            Integer[] row = {a, b, c, d, e};
                            boolean all = true;
                            for (int i = 0; all && i < rules.size(); i++) {
                                all = rules.get(i).holds(row);
                            }
                            if (all) {
                                out.add(row);
                            }
                        }
                    }
                }
            }
        }
        return out;
    }

    private int tellFirst(List<Integer[]> rows) {
        tell();
        if (!rows.isEmpty()) {
            tellRow(rows.get(0));
        }
        return rows.size();
    }

    public int many() {
        return tellFirst(solutions(now.rules));
    }

    public int nth(int k) {
        if (k < 1) {
            return -1;
        }
        List<Integer[]> all = solutions(now.rules);
        if (k > all.size()) {
            return -2;
        }
        tellRow(all.get(k - 1));
        return 0;
    }

    public int always() {
        List<Integer[]> all = solutions(now.rules);
        if (all.isEmpty()) {
            return -2;
        }
        int set = 0;
        tell();
        for (int x = 0; x < 5; x++) {
            TreeSet<Integer> seen = new TreeSet<>();
            for (Integer[] row : all) {
                seen.add(row[x]);
            }
            if (seen.size() == 1) {
                set |= 1 << x;
                told.add((long) seen.first());
            }
        }
        return set;
    }

    private int nodes;
    private int failed;
    private int deepest;
    private int changes;

    private static int changesOf(List<TreeSet<Integer>> a, List<TreeSet<Integer>> b) {
        int n = 0;
        for (int x = 0; x < 5; x++) {
            n += a.get(x).equals(b.get(x)) ? 0 : 1;
        }
        return n;
    }

    private int pick(List<TreeSet<Integer>> left, int way) {
        int best = -1;
        long bestKey = Long.MAX_VALUE;
        for (int x = 0; x < 5; x++) {
            long in = 0;
            for (Rule r : now.rules) {
                in += r.variables().contains(x) ? 1 : 0;
            }
            long key = way == 0 ? x : way == 1 ? left.get(x).size() * 10 + x : -in * 10 + x;
            if (left.get(x).size() > 1 && key < bestKey) {
                best = x;
                bestKey = key;
            }
        }
        return best;
    }

    /** The solved values, or null: nothing is left to try. A Fault: it would need one node too many. */
    private List<TreeSet<Integer>> solve(List<TreeSet<Integer>> left, int way, int around) {
        int x = pick(left, way);
        if (x < 0) {
            return left;
        }
        for (int v : left.get(x)) {
            if (nodes == 200) {
                throw new Fault(0);
            }
            nodes++;
            deepest = Math.max(deepest, around + 1);
            List<TreeSet<Integer>> fixed = copyOf(left);
            fixed.set(x, new TreeSet<>(List.of(v)));
            List<TreeSet<Integer>> then = spread(fixed, now.rules);
            if (then == null) {
                failed++;
                changes++;
                continue;
            }
            changes += changesOf(left, then);
            List<TreeSet<Integer>> solved = solve(then, way, around + 1);
            if (solved != null) {
                return solved;
            }
        }
        return null;
    }

    public int search(int way) {
        if (!in(way, 0, 2)) {
            return -1;
        }
        nodes = 0;
        failed = 0;
        deepest = 0;
        changes = 0;
        List<TreeSet<Integer>> left = spread(now.variables, now.rules);
        if (left == null) {
            tell(0, 1, 0, 0);
            return 0;
        }
        changes = changesOf(left, now.variables);
        try {
            List<TreeSet<Integer>> solved = solve(left, way, 0);
            tell(nodes, failed, deepest, changes);
            for (int x = 0; solved != null && x < 5; x++) {
                told.add((long) solved.get(x).first());
            }
            return solved == null ? 0 : 1;
        } catch (Fault f) {
            tell(nodes, failed, deepest, changes);
            return 2;
        }
    }

    public int best() {
        List<Integer[]> top = new ArrayList<>();
        long greatest = Long.MIN_VALUE;
        for (Integer[] row : solutions(now.rules)) {
            long worth = 0;
            for (int x = 0; x < 5; x++) {
                worth += (long) now.cells[x] * row[x];
            }
            if (worth > greatest) {
                greatest = worth;
                top.clear();
            }
            if (worth == greatest) {
                top.add(row);
            }
        }
        if (top.isEmpty()) {
            return -2;
        }
        tellRow(top.get(0));
        told.add(0, greatest);
        return top.size();
    }

    public int shadows(int set) {
        if (!in(set, 1, 31) || Integer.bitCount(set) > 3) {
            return -1;
        }
        TreeMap<String, Integer> counts = new TreeMap<>();
        for (Integer[] row : solutions(now.rules)) {
            StringBuilder key = new StringBuilder();
            for (int x = 0; x < 5; x++) {
                if ((set & 1 << x) != 0) {
                    key.append(row[x]);
                }
            }
            counts.merge(key.toString(), 1, Integer::sum);
        }
        tell();
        String most = null;
        for (String key : counts.keySet()) {
            if (most == null || counts.get(key) > counts.get(most)) {
                most = key;
            }
        }
        if (most != null) {
            told.add((long) counts.get(most));
            for (char c : most.toCharArray()) {
                told.add((long) (c - '0'));
            }
        }
        return counts.size();
    }

    private List<TreeSet<Integer>> fixedAndSpread(int x, int v) {
        List<TreeSet<Integer>> left = copyOf(now.variables);
        left.set(x, new TreeSet<>(List.of(v)));
        return spread(left, now.rules);
    }

    public int probes() {
        int set = 0;
        for (int x = 0; x < 5; x++) {
            for (int v : now.variables.get(x)) {
                if (fixedAndSpread(x, v) == null) {
                    set |= 1 << 6 * x + v;
                }
            }
        }
        tell(Integer.bitCount(set));
        return set;
    }

    public int leaves(int x, int v) {
        if (!in(x, 0, 4) || !in(v, 0, 5)) {
            return -1;
        }
        if (!now.variables.get(x).contains(v)) {
            return -2;
        }
        List<TreeSet<Integer>> left = fixedAndSpread(x, v);
        if (left == null) {
            return -3;
        }
        tell();
        for (TreeSet<Integer> s : left) {
            told.add((long) bits(s));
        }
        return size(left);
    }

    private List<Rule> chosen(int set) {
        List<Rule> out = new ArrayList<>();
        for (int i = 0; i < now.rules.size(); i++) {
            if ((set & 1 << i) != 0) {
                out.add(now.rules.get(i));
            }
        }
        return out;
    }

    private int fewest(int x, int v) {
        for (int size = 0; size <= now.rules.size(); size++) {
            for (int set = 0; set < 1 << now.rules.size(); set++) {
                if (Integer.bitCount(set) == size) {
                    List<TreeSet<Integer>> left = spread(now.variables, chosen(set));
                    if (left == null || x >= 0 && !left.get(x).contains(v)) {
                        tell(size);
                        return set;
                    }
                }
            }
        }
        return -2;
    }

    public int culprits() {
        return fewest(-1, -1);
    }

    public int why(int x, int v) {
        if (!in(x, 0, 4) || !in(v, 0, 5)) {
            return -1;
        }
        return now.variables.get(x).contains(v) ? fewest(x, v) : -3;
    }

    public int mends() {
        int all = (1 << now.rules.size()) - 1;
        for (int size = 0; size <= now.rules.size(); size++) {
            for (int set = 0; set <= all; set++) {
                if (Integer.bitCount(set) == size) {
                    int found = solutions(chosen(all & ~set)).size();
                    if (found > 0) {
                        tell(size, found);
                        return set;
                    }
                }
            }
        }
        throw new IllegalStateException("without rules there is a solution");
    }

    // ---- which solution it was

    public int heard(int x, int v, int is) {
        if (!in(x, 0, 4) || !in(v, 0, 5) || !in(is, 0, 1) || hearsay.size() == 10) {
            return -1;
        }
        hearsay.add(new int[] {x, v, is});
        return hearsay.size();
    }

    public int forget() {
        int n = hearsay.size();
        hearsay.clear();
        return n;
    }

    private List<Integer[]> fitting() {
        List<Integer[]> out = solutions(now.rules);
        for (int[] h : hearsay) {
            out.removeIf(row -> row[h[0]] == h[1] != (h[2] == 1));
        }
        return out;
    }

    public int fits() {
        return tellFirst(fitting());
    }

    public int asks() {
        List<Integer[]> all = fitting();
        if (all.isEmpty()) {
            return -2;
        }
        int best = -1;
        int fewest = Integer.MAX_VALUE;
        for (int x = 0; x < 5; x++) {
            for (int v = 0; v < 6; v++) {
                int so = 0;
                for (Integer[] row : all) {
                    so += row[x] == v ? 1 : 0;
                }
                int most = Math.max(so, all.size() - so);
                if (most < fewest) {
                    fewest = most;
                    best = 6 * x + v;
                }
            }
        }
        tell(fewest);
        return best;
    }

    // ---- years

    private int r;

    private int draw(int n) {
        r = r * 1103515245 + 12345;
        return (int) (Integer.toUnsignedLong(r) / 65536 % n);
    }

    public int years(int seed, int n) {
        if (!in(n, 1, 40)) {
            return -1;
        }
        Model dream = new Model();
        dream.now = now.copy();
        for (Level l : levels) {
            dream.levels.add(l.copy());
        }
        dream.r = seed;
        for (int i = 0; i < n; i++) {
            dream.year();
        }
        int on = 0;
        for (Level l : dream.levels) {
            on += l.trail.size();
        }
        tell(Arrays.stream(dream.now.cells).sum(), size(dream.now.variables), dream.now.pairs.size(), on);
        return dream.levels.size();
    }

    private void year() {
        int what = draw(8);
        int first = what == 0 ? draw(6) : what == 1 ? draw(5) : what == 2 || what == 3 ? draw(10) : 0;
        int second = what == 0 ? draw(41) - 20 : what == 1 ? draw(6) : what == 2 ? draw(100) : 0;
        switch (what) {
            case 0: adds(first, second); break;
            case 1: removes(first, second); break;
            case 2: puts(first, second); break;
            case 3: drops(first); break;
            case 4: opens(); break;
            case 5: closes(); break;
            case 6: commits(); break;
            default: spreads(); break;
        }
    }

    // ---- kept

    public boolean keep(int i) {
        if (!in(i, 0, 1)) {
            return false;
        }
        kept[i] = now.copy();
        return true;
    }

    public boolean again(int i) {
        if (!in(i, 0, 1) || kept[i] == null) {
            return false;
        }
        now = kept[i].copy();
        levels.clear();
        return true;
    }

    public int differs(int i) {
        if (!in(i, 0, 1)) {
            return -1;
        }
        if (kept[i] == null) {
            return -2;
        }
        tellAll(now.otherwise(kept[i]));
        return told.size();
    }

    public int count(int what) {
        switch (what) {
            case 0: return levels.size();
            case 1: return size(now.variables);
            case 2: return now.pairs.size();
            case 3: return now.rules.size();
            case 4: return Arrays.stream(now.cells).sum() + 10000;
            case 5:
                int on = 0;
                for (Level l : levels) {
                    on += l.trail.size();
                }
                return on;
            case 6: return hearsay.size();
            case 7: return told.size();
            case 8: return text.length();
            case 9:
                int set = 0;
                for (int x = 0; x < 5; x++) {
                    set |= now.variables.get(x).size() == 1 ? 1 << x : 0;
                }
                return set;
            default: return -100;
        }
    }

    public long row(int i) {
        if (!in(i, 0, told.size() - 1)) {
            throw new NoSuchElementException();
        }
        return told.get(i);
    }
}
