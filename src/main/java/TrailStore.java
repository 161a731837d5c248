import java.util.Arrays;
import java.util.NoSuchElementException;

/**
 * A store for those who seek and turn back. What each call promises stands in the document; all rows that
 * calls need are made once, in constructors, so that calls make no objects.
 */
public final class TrailStore {
    public static final int NONE = -1;

    private static final int CELLS = 6;
    private static final int VARIABLES = 5;
    private static final int VALUES = 6;
    private static final int ALL_VALUES = 63;
    private static final int KEYS = 10;
    private static final int MOST_PAIRS = 8;
    private static final int MOST_CONSTRAINTS = 8;
    private static final int MOST_LEVELS = 9;
    private static final int MOST_SIGNS = 80;
    private static final int MOST_HEARD = 10;
    private static final int KEPT = 2;
    private static final int GREATEST = 999;

    private static final int FIRST_VARIABLE = 10;
    private static final int FIRST_KEY = 20;
    private static final int ALL_CONSTRAINTS = 30;
    private static final int DIFFERENT_THINGS = CELLS + VARIABLES + KEYS + 1;

    private static final int LESS = 0;
    private static final int EQUAL = 1;
    private static final int UNEQUAL = 2;
    private static final int ALL_DIFFERENT = 3;
    /** Numbers that tell one constraint: its sort, x or the set, y, d. */
    private static final int PARTS = 4;

    /** 6 times 6 times 6 times 6 times 6: no more rows of values there are. */
    private static final int MOST_SOLUTIONS = 7776;
    private static final int CONSTRAINT_SETS = 256;
    private static final int MOST_NODES = 200;
    private static final int MOST_YEARS = 40;

    private final Text text = new Text();
    private final Row told = new Row();
    private final Store store = new Store();
    /** Holds the store as it was while a run may still be undone, and what years only dream of. */
    private final Store spare = new Store();
    private final Spreader spreader = new Spreader();
    private final Walk walk = new Walk(store.now);
    private final Search seeker = new Search(store.now, spreader);
    private final Posting posting = new Posting(text);
    private final Runner runner = new Runner(store, text, spreader);
    private final Hearsay hearsay = new Hearsay();
    private final Things[] kept = new Things[KEPT];
    private final boolean[] isKept = new boolean[KEPT];
    private final int[] tally = new int[CONSTRAINT_SETS];
    private final int[] first = new int[VARIABLES];
    private int drawn;

    public TrailStore() {
        for (int i = 0; i < KEPT; i++) {
            kept[i] = new Things();
        }
    }

    // ---- things

    public int sign(int v) {
        return text.append(v);
    }

    public boolean end(int n) {
        return text.cut(n);
    }

    public int cell(int i) throws NoSuchElementException {
        if (!isCell(i)) {
            throw new NoSuchElementException();
        }
        return store.now.numbers[i];
    }

    public int values(int x) throws NoSuchElementException {
        if (!isVariable(x)) {
            throw new NoSuchElementException();
        }
        return store.now.left[x];
    }

    public int pair(int i, int what) throws NoSuchElementException {
        Things now = store.now;
        if (i < 0 || i >= now.pairs || what < 0 || what > 1) {
            throw new NoSuchElementException();
        }
        return what == 0 ? now.keys[i] : now.keyNumbers[i];
    }

    public int constraint(int i, int what) throws NoSuchElementException {
        Things now = store.now;
        if (i < 0 || i >= now.constraints || what < 0 || what >= PARTS) {
            throw new NoSuchElementException();
        }
        return now.parts[PARTS * i + what];
    }

    public int sheet(int kind, int n, int f, int step) {
        if (kind < 0 || kind > 3 || n > CELLS) {
            return NONE;
        }
        boolean missing = kind == 3;
        if (!missing && n < 0) {
            return -2;
        }
        int entries = missing ? 0 : n;
        for (int i = 0; i < CELLS; i++) {
            store.cellBecomes(i, i < entries ? sheetEntry(kind, f + i * step) : 0);
        }
        return missing ? -3 : 10000 + store.now.sumOfCells();
    }

    private static int sheetEntry(int kind, int entry) {
        int number = kind == 0 ? (byte) entry : kind == 1 ? (short) entry : entry;
        return Math.max(-GREATEST, Math.min(GREATEST, number));
    }

    // ---- what is done

    public int sets(int i, int v) {
        return store.setCell(i, v);
    }

    public int adds(int i, int by) {
        return store.addToCell(i, by);
    }

    public int removes(int x, int v) {
        return store.takeValue(x, v);
    }

    public int fixes(int x, int v) {
        return store.fixVariable(x, v);
    }

    public int limits(int x, int low, int high) {
        return store.limitVariable(x, low, high);
    }

    public int renews(int x) {
        return store.renewVariable(x);
    }

    public int puts(int key, int v) {
        return store.putKey(key, v);
    }

    public int drops(int key) {
        return store.dropKey(key);
    }

    public int posts() {
        int fault = posting.fault();
        text.empty();
        if (fault != NONE) {
            return -1 - fault;
        }
        if (store.now.constraints + posting.found > MOST_CONSTRAINTS) {
            return -100;
        }
        store.addConstraints(posting.fresh, posting.found);
        return posting.found;
    }

    public int lifts(int i) {
        return store.liftConstraint(i);
    }

    public int spreads() {
        return store.spreadAll(spreader);
    }

    public int opens() {
        return store.openLevel();
    }

    public int closes() {
        if (store.depth == 0) {
            return -2;
        }
        closeAndTell(store.depth - 1);
        return store.depth;
    }

    public int back(int n) {
        if (n < 0 || n > store.depth) {
            return NONE;
        }
        int closed = store.depth - n;
        closeAndTell(n);
        return closed;
    }

    private void closeAndTell(int n) {
        told.only(n < store.depth ? store.now.otherThings(store.levels[n].opened) : 0);
        store.closeTo(n);
    }

    public int commits() {
        if (store.depth == 0) {
            return -2;
        }
        int shared = store.commitLevel();
        told.only(store.depth == 0 ? 0 : store.levels[store.depth - 1].size);
        told.tell(shared);
        return store.depth;
    }

    public int run() {
        int answer;
        int fault = runner.fault();
        if (fault != NONE) {
            answer = -1 - fault;
        } else {
            spare.become(store);
            runner.begin();
            if (runner.doRun(0)) {
                answer = runner.done;
                told.only(store.now.otherThings(spare.now));
            } else {
                answer = -100 - runner.at;
                store.become(spare);
            }
        }
        text.empty();
        return answer;
    }

    // ---- as it was

    public int was(int d, int thing) {
        if (!isOpen(d) || !isThing(thing)) {
            return NONE;
        }
        return store.levels[d - 1].opened.tellThing(thing);
    }

    public int trail(int d) {
        if (!isOpen(d)) {
            return NONE;
        }
        Level level = store.levels[d - 1];
        told.empty();
        for (int i = 0; i < level.size; i++) {
            told.tell(level.passed[i]);
        }
        return level.size;
    }

    public int since(int thing) {
        if (!isThing(thing)) {
            return NONE;
        }
        int bits = 0;
        for (int d = 1; d <= store.depth; d++) {
            if (store.levels[d - 1].has(thing)) {
                bits |= 1 << d;
            }
        }
        told.only(Integer.bitCount(bits));
        return bits;
    }

    public int would(int n) {
        if (n < 0 || n > store.depth) {
            return NONE;
        }
        return tellOtherThings(store.now, n == store.depth ? store.now : store.levels[n].opened);
    }

    public int between(int d, int e) {
        if (!isOpen(d) || !isOpen(e)) {
            return NONE;
        }
        return tellOtherThings(store.levels[d - 1].opened, store.levels[e - 1].opened);
    }

    private boolean isOpen(int d) {
        return d >= 1 && d <= store.depth;
    }

    private int tellOtherThings(Things one, Things other) {
        told.empty();
        for (int thing = 0; thing <= ALL_CONSTRAINTS; thing++) {
            if (isThing(thing) && one.isOtherwise(thing, other)) {
                told.tell(thing);
            }
        }
        return told.size;
    }

    // ---- solutions

    public int many() {
        int found = 0;
        walk.begin(true);
        for (int n = 0; n < MOST_SOLUTIONS && walk.advance(); n++) {
            if (found == 0) {
                keepFirst();
            }
            found++;
        }
        tellFirst(found);
        return found;
    }

    public int nth(int k) {
        if (k < 1) {
            return NONE;
        }
        walk.begin(true);
        for (int n = 1; n <= MOST_SOLUTIONS && walk.advance(); n++) {
            if (n == k) {
                told.empty();
                told.tellAll(walk.at);
                return 0;
            }
        }
        return -2;
    }

    public int always() {
        int found = 0;
        Arrays.fill(tally, 0);
        walk.begin(true);
        for (int n = 0; n < MOST_SOLUTIONS && walk.advance(); n++) {
            for (int x = 0; x < VARIABLES; x++) {
                tally[x] |= 1 << walk.at[x];
            }
            found++;
        }
        if (found == 0) {
            return -2;
        }
        int same = 0;
        told.empty();
        for (int x = 0; x < VARIABLES; x++) {
            if (Integer.bitCount(tally[x]) == 1) {
                same |= 1 << x;
                told.tell(Integer.numberOfTrailingZeros(tally[x]));
            }
        }
        return same;
    }

    public int search(int way) {
        if (way < 0 || way > 2) {
            return NONE;
        }
        int answer = seeker.seek(way);
        told.only(seeker.nodes);
        told.tell(seeker.failed);
        told.tell(seeker.deepest);
        told.tell(seeker.changes);
        if (answer == 1) {
            for (int x = 0; x < VARIABLES; x++) {
                told.tell(Integer.numberOfTrailingZeros(spreader.left[x]));
            }
        }
        return answer;
    }

    public int best() {
        int found = 0;
        int greatest = 0;
        walk.begin(true);
        for (int n = 0; n < MOST_SOLUTIONS && walk.advance(); n++) {
            int worth = worthOfSolution();
            if (found == 0 || worth > greatest) {
                greatest = worth;
                found = 0;
                keepFirst();
            }
            if (worth == greatest) {
                found++;
            }
        }
        if (found == 0) {
            return -2;
        }
        told.only(greatest);
        told.tellAll(first);
        return found;
    }

    public int shadows(int set) {
        if (set < 1 || set >= 1 << VARIABLES || Integer.bitCount(set) > 3) {
            return NONE;
        }
        Arrays.fill(tally, 0);
        walk.begin(true);
        for (int n = 0; n < MOST_SOLUTIONS && walk.advance(); n++) {
            tally[shadowOfSolution(set)]++;
        }
        int different = 0;
        int most = 0;
        for (int shadow = 0; shadow < tally.length; shadow++) {
            if (tally[shadow] > 0) {
                different++;
            }
            if (tally[shadow] > tally[most]) {
                most = shadow;
            }
        }
        told.empty();
        if (different > 0) {
            told.tell(tally[most]);
            tellShadow(most, Integer.bitCount(set));
        }
        return different;
    }

    public int probes() {
        int bits = 0;
        for (int x = 0; x < VARIABLES; x++) {
            for (int v = 0; v < VALUES; v++) {
                if (store.now.hasValue(x, v) && !bears(x, v)) {
                    bits |= 1 << (VALUES * x + v);
                }
            }
        }
        told.only(Integer.bitCount(bits));
        return bits;
    }

    public int leaves(int x, int v) {
        if (!isVariable(x) || !isValue(v)) {
            return NONE;
        }
        if (!store.now.hasValue(x, v)) {
            return -2;
        }
        if (!bears(x, v)) {
            return -3;
        }
        told.empty();
        told.tellAll(spreader.left);
        return spreader.valuesLeft();
    }

    public int culprits() {
        return tellBlamed(fewestBlamed(NONE, NONE));
    }

    public int why(int x, int v) {
        if (!isVariable(x) || !isValue(v)) {
            return NONE;
        }
        if (!store.now.hasValue(x, v)) {
            return -3;
        }
        return tellBlamed(fewestBlamed(x, v));
    }

    public int mends() {
        Arrays.fill(tally, 0);
        walk.begin(false);
        for (int n = 0; n < MOST_SOLUTIONS && walk.advance(); n++) {
            tally[walk.brokenInAll()]++;
        }
        int fewest = allConstraints();
        for (int set = 0; set < tally.length; set++) {
            if (tally[set] > 0 && Integer.bitCount(set) < Integer.bitCount(fewest)) {
                fewest = set;
            }
        }
        int found = 0;
        for (int set = 0; set < tally.length; set++) {
            if ((set & ~fewest) == 0) {
                found += tally[set];
            }
        }
        told.only(Integer.bitCount(fewest));
        told.tell(found);
        return fewest;
    }

    private void keepFirst() {
        System.arraycopy(walk.at, 0, first, 0, VARIABLES);
    }

    private void tellFirst(int found) {
        told.empty();
        if (found > 0) {
            told.tellAll(first);
        }
    }

    private int worthOfSolution() {
        int worth = 0;
        for (int x = 0; x < VARIABLES; x++) {
            worth += store.now.numbers[x] * walk.at[x];
        }
        return worth;
    }

    /** The values of the set's variables as one number, so that the numbers rise as the rows do. */
    private int shadowOfSolution(int set) {
        int shadow = 0;
        for (int x = 0; x < VARIABLES; x++) {
            if ((set >>> x & 1) == 1) {
                shadow = VALUES * shadow + walk.at[x];
            }
        }
        return shadow;
    }

    private void tellShadow(int shadow, int values) {
        int weight = 1;
        for (int i = 1; i < values; i++) {
            weight *= VALUES;
        }
        for (int i = 0; i < values; i++) {
            told.tell(shadow / weight % VALUES);
            weight = Math.max(1, weight / VALUES);
        }
    }

    private int allConstraints() {
        return (1 << store.now.constraints) - 1;
    }

    /** Spreads, in the spreader alone, as if the variable had this value only. */
    private boolean bears(int x, int v) {
        spreader.begin(store.now);
        spreader.left[x] = 1 << v;
        return spreader.spread(store.now, allConstraints());
    }

    private boolean isBlamed(int set, int x, int v) {
        spreader.begin(store.now);
        if (!spreader.spread(store.now, set)) {
            return true;
        }
        return isVariable(x) && isValue(v) && (spreader.left[x] >>> v & 1) == 0;
    }

    /** 0 if not even all constraints together are to blame. */
    private int fewestBlamed(int x, int v) {
        int fewest = allConstraints();
        if (!isBlamed(fewest, x, v)) {
            return 0;
        }
        int sets = fewest;
        for (int set = 1; set < sets; set++) {
            if (Integer.bitCount(set) < Integer.bitCount(fewest) && isBlamed(set, x, v)) {
                fewest = set;
            }
        }
        return fewest;
    }

    private int tellBlamed(int set) {
        if (set == 0) {
            return -2;
        }
        told.only(Integer.bitCount(set));
        return set;
    }

    // ---- which solution it was

    public int heard(int x, int v, int is) {
        if (!isVariable(x) || !isValue(v) || is < 0 || is > 1) {
            return NONE;
        }
        return hearsay.add(x, v, is);
    }

    public int forget() {
        int were = hearsay.size;
        hearsay.size = 0;
        return were;
    }

    public int fits() {
        int found = 0;
        walk.begin(true);
        for (int n = 0; n < MOST_SOLUTIONS && walk.advance(); n++) {
            if (hearsay.agrees(walk.at)) {
                if (found == 0) {
                    keepFirst();
                }
                found++;
            }
        }
        tellFirst(found);
        return found;
    }

    public int asks() {
        int found = tallyFitting();
        if (found == 0) {
            return -2;
        }
        int question = 0;
        int fewest = found;
        for (int q = 0; q < VARIABLES * VALUES; q++) {
            int most = Math.max(tally[q], found - tally[q]);
            if (most < fewest) {
                fewest = most;
                question = q;
            }
        }
        told.only(fewest);
        return question;
    }

    private int tallyFitting() {
        int found = 0;
        Arrays.fill(tally, 0);
        walk.begin(true);
        for (int n = 0; n < MOST_SOLUTIONS && walk.advance(); n++) {
            if (hearsay.agrees(walk.at)) {
                for (int x = 0; x < VARIABLES; x++) {
                    tally[VALUES * x + walk.at[x]]++;
                }
                found++;
            }
        }
        return found;
    }

    // ---- years

    public int years(int seed, int n) {
        if (n < 1 || n > MOST_YEARS) {
            return NONE;
        }
        spare.become(store);
        drawn = seed;
        for (int year = 0; year < n; year++) {
            dreamYear();
        }
        told.only(spare.now.sumOfCells());
        told.tell(spare.now.valuesLeft());
        told.tell(spare.now.pairs);
        told.tell(spare.thingsOnTrails());
        return spare.depth;
    }

    private void dreamYear() {
        switch (draw(8)) {
            case 0:
                int i = draw(CELLS);
                spare.addToCell(i, draw(41) - 20);
                break;
            case 1:
                int x = draw(VARIABLES);
                spare.takeValue(x, draw(VALUES));
                break;
            case 2:
                int key = draw(KEYS);
                spare.putKey(key, draw(100));
                break;
            case 3:
                spare.dropKey(draw(KEYS));
                break;
            case 4:
                spare.openLevel();
                break;
            case 5:
                spare.closeTo(spare.depth - 1);
                break;
            case 6:
                spare.commitLevel();
                break;
            default:
                spare.spreadAll(spreader);
                break;
        }
    }

    private int draw(int n) {
        drawn = drawn * 1103515245 + 12345;
        return n < 1 ? 0 : (drawn >>> 16) % n;
    }

    // ---- kept

    public boolean keep(int i) {
        if (i < 0 || i >= KEPT) {
            return false;
        }
        kept[i].become(store.now);
        isKept[i] = true;
        return true;
    }

    public boolean again(int i) {
        if (i < 0 || i >= KEPT || !isKept[i]) {
            return false;
        }
        store.now.become(kept[i]);
        store.depth = 0;
        return true;
    }

    public int differs(int i) {
        if (i < 0 || i >= KEPT) {
            return NONE;
        }
        if (!isKept[i]) {
            return -2;
        }
        return tellOtherThings(store.now, kept[i]);
    }

    public int count(int what) {
        switch (what) {
            case 0:
                return store.depth;
            case 1:
                return store.now.valuesLeft();
            case 2:
                return store.now.pairs;
            case 3:
                return store.now.constraints;
            case 4:
                return store.now.sumOfCells() + 10000;
            case 5:
                return store.thingsOnTrails();
            case 6:
                return hearsay.size;
            case 7:
                return told.size;
            case 8:
                return text.size;
            case 9:
                return store.now.settled();
            default:
                return -100;
        }
    }

    public long row(int i) throws NoSuchElementException {
        if (i < 0 || i >= told.size) {
            throw new NoSuchElementException();
        }
        return told.numbers[i];
    }

    private static boolean isCell(int i) {
        return i >= 0 && i < CELLS;
    }

    private static boolean isVariable(int x) {
        return x >= 0 && x < VARIABLES;
    }

    private static boolean isValue(int v) {
        return v >= 0 && v < VALUES;
    }

    private static boolean isKey(int key) {
        return key >= 0 && key < KEYS;
    }

    private static boolean isNumber(long v) {
        return v >= -GREATEST && v <= GREATEST;
    }

    private static boolean isThing(int thing) {
        return isCell(thing) || isVariable(thing - FIRST_VARIABLE) || isKey(thing - FIRST_KEY)
                || thing == ALL_CONSTRAINTS;
    }

    /** The text that sign() writes and a run or a posting reads. */
    private static final class Text {
        final int[] signs = new int[MOST_SIGNS];
        int size;

        int append(int v) {
            if (size + 4 > MOST_SIGNS) {
                return NONE;
            }
            for (int shift = 24; shift >= 0; shift -= 8) {
                signs[size] = v >>> shift & 255;
                size++;
            }
            return size;
        }

        boolean cut(int n) {
            if (n < 0 || n > size) {
                return false;
            }
            size = n;
            return true;
        }

        void empty() {
            size = 0;
        }

        /** NONE, which no sign is, stands at the end and beyond. */
        int signAt(int p) {
            return p >= 0 && p < size ? signs[p] : NONE;
        }

        int cellAt(int p) {
            int i = signAt(p) - 'A';
            return isCell(i) ? i : NONE;
        }

        int variableAt(int p) {
            int x = signAt(p) - 'v';
            return isVariable(x) ? x : NONE;
        }

        int digitAt(int p) {
            int digit = signAt(p) - '0';
            return digit >= 0 && digit <= 9 ? digit : NONE;
        }

        int twoDigitsAt(int p) {
            return 10 * digitAt(p) + digitAt(p + 1);
        }
    }

    /** The ROW. */
    private static final class Row {
        final long[] numbers = new long[DIFFERENT_THINGS];
        int size;

        void empty() {
            size = 0;
        }

        void tell(long number) {
            if (size < numbers.length) {
                numbers[size] = number;
                size++;
            }
        }

        void only(long number) {
            size = 0;
            tell(number);
        }

        void tellAll(int[] byVariable) {
            for (int number : byVariable) {
                tell(number);
            }
        }
    }

    /** All THINGS as they are, or were, at one time. */
    private static final class Things {
        final int[] numbers = new int[CELLS];
        final int[] left = new int[VARIABLES];
        final int[] keys = new int[MOST_PAIRS];
        final int[] keyNumbers = new int[MOST_PAIRS];
        final int[] parts = new int[PARTS * MOST_CONSTRAINTS];
        int pairs;
        int constraints;

        Things() {
            Arrays.fill(left, ALL_VALUES);
        }

        void become(Things other) {
            System.arraycopy(other.numbers, 0, numbers, 0, CELLS);
            System.arraycopy(other.left, 0, left, 0, VARIABLES);
            System.arraycopy(other.keys, 0, keys, 0, MOST_PAIRS);
            System.arraycopy(other.keyNumbers, 0, keyNumbers, 0, MOST_PAIRS);
            System.arraycopy(other.parts, 0, parts, 0, PARTS * MOST_CONSTRAINTS);
            pairs = other.pairs;
            constraints = other.constraints;
        }

        boolean hasValue(int x, int v) {
            return isVariable(x) && isValue(v) && (left[x] >>> v & 1) == 1;
        }

        int placeOf(int key) {
            for (int i = 0; i < pairs; i++) {
                if (keys[i] == key) {
                    return i;
                }
            }
            return NONE;
        }

        int tellThing(int thing) {
            if (isCell(thing)) {
                return 1000 + numbers[thing];
            }
            if (isVariable(thing - FIRST_VARIABLE)) {
                return left[thing - FIRST_VARIABLE];
            }
            if (isKey(thing - FIRST_KEY)) {
                int place = placeOf(thing - FIRST_KEY);
                return place == NONE ? 0 : 1000 + keyNumbers[place];
            }
            return constraints;
        }

        boolean isOtherwise(int thing, Things other) {
            if (tellThing(thing) != other.tellThing(thing)) {
                return true;
            }
            return thing == ALL_CONSTRAINTS && hasOtherParts(other);
        }

        private boolean hasOtherParts(Things other) {
            for (int i = 0; i < PARTS * constraints; i++) {
                if (parts[i] != other.parts[i]) {
                    return true;
                }
            }
            return false;
        }

        int otherThings(Things other) {
            int others = 0;
            for (int thing = 0; thing <= ALL_CONSTRAINTS; thing++) {
                if (isThing(thing) && isOtherwise(thing, other)) {
                    others++;
                }
            }
            return others;
        }

        int sumOfCells() {
            int sum = 0;
            for (int number : numbers) {
                sum += number;
            }
            return sum;
        }

        int valuesLeft() {
            int sum = 0;
            for (int bits : left) {
                sum += Integer.bitCount(bits);
            }
            return sum;
        }

        int settled() {
            int set = 0;
            for (int x = 0; x < VARIABLES; x++) {
                if (Integer.bitCount(left[x]) == 1) {
                    set |= 1 << x;
                }
            }
            return set;
        }
    }

    /** A LEVEL: all as it was when it was opened, and its TRAIL. */
    private static final class Level {
        final Things opened = new Things();
        final int[] passed = new int[DIFFERENT_THINGS];
        int size;
        /** A bit for each thing on the trail: that it stands there once is asked at each change. */
        private int marks;

        void begin(Things now) {
            opened.become(now);
            size = 0;
            marks = 0;
        }

        void become(Level other) {
            opened.become(other.opened);
            System.arraycopy(other.passed, 0, passed, 0, DIFFERENT_THINGS);
            size = other.size;
            marks = other.marks;
        }

        boolean has(int thing) {
            return (marks >>> thing & 1) == 1;
        }

        void put(int thing) {
            if ((marks >>> thing & 1) == 0 && size < DIFFERENT_THINGS) {
                passed[size] = thing;
                size++;
                marks |= 1 << thing;
            }
        }
    }

    /** THINGS and LEVELS with all acts on them. Each act answers as the call of the face does. */
    private static final class Store {
        final Things now = new Things();
        final Level[] levels = new Level[MOST_LEVELS];
        int depth;

        Store() {
            for (int d = 0; d < MOST_LEVELS; d++) {
                levels[d] = new Level();
            }
        }

        void become(Store other) {
            now.become(other.now);
            depth = other.depth;
            for (int d = 0; d < depth; d++) {
                levels[d].become(other.levels[d]);
            }
        }

        private void changed(int thing) {
            if (depth > 0) {
                levels[depth - 1].put(thing);
            }
        }

        void cellBecomes(int i, int v) {
            if (now.numbers[i] != v) {
                now.numbers[i] = v;
                changed(i);
            }
        }

        int setCell(int i, int v) {
            if (!isCell(i) || !isNumber(v)) {
                return NONE;
            }
            int old = now.numbers[i];
            cellBecomes(i, v);
            return 1000 + old;
        }

        int addToCell(int i, int by) {
            if (!isCell(i)) {
                return NONE;
            }
            long sum = (long) now.numbers[i] + by;
            if (!isNumber(sum)) {
                return -2;
            }
            cellBecomes(i, (int) sum);
            return 1000 + (int) sum;
        }

        /** How many values go, or come. */
        private int variableBecomes(int x, int bits) {
            int old = now.left[x];
            if (old != bits) {
                now.left[x] = bits;
                changed(FIRST_VARIABLE + x);
            }
            return Integer.bitCount(old ^ bits);
        }

        int takeValue(int x, int v) {
            if (!isVariable(x) || !isValue(v)) {
                return NONE;
            }
            if (!now.hasValue(x, v)) {
                return -2;
            }
            int rest = now.left[x] & ~(1 << v);
            if (rest == 0) {
                return -3;
            }
            variableBecomes(x, rest);
            return Integer.bitCount(rest);
        }

        int fixVariable(int x, int v) {
            if (!isVariable(x) || !isValue(v)) {
                return NONE;
            }
            return now.hasValue(x, v) ? variableBecomes(x, 1 << v) : -2;
        }

        int limitVariable(int x, int low, int high) {
            if (!isVariable(x) || !isValue(low) || !isValue(high)) {
                return NONE;
            }
            int rest = now.left[x] & Spreader.below(high + 1) & ~Spreader.below(low);
            return rest == 0 ? -2 : variableBecomes(x, rest);
        }

        int renewVariable(int x) {
            if (!isVariable(x)) {
                return NONE;
            }
            return depth > 0 ? -2 : variableBecomes(x, ALL_VALUES);
        }

        int putKey(int key, int v) {
            if (!isKey(key) || !isNumber(v)) {
                return NONE;
            }
            int place = now.placeOf(key);
            if (place == NONE) {
                place = now.pairs;
                if (place >= MOST_PAIRS) {
                    return -2;
                }
                now.keys[place] = key;
                now.pairs++;
                changed(FIRST_KEY + key);
            } else if (now.keyNumbers[place] != v) {
                changed(FIRST_KEY + key);
            }
            now.keyNumbers[place] = v;
            return place;
        }

        int dropKey(int key) {
            if (!isKey(key)) {
                return NONE;
            }
            int place = now.placeOf(key);
            if (place == NONE) {
                return -2;
            }
            for (int i = place + 1; i < now.pairs; i++) {
                now.keys[i - 1] = now.keys[i];
                now.keyNumbers[i - 1] = now.keyNumbers[i];
            }
            now.pairs--;
            changed(FIRST_KEY + key);
            return place;
        }

        void addConstraints(int[] fresh, int n) {
            int from = PARTS * now.constraints;
            for (int i = 0; i < PARTS * n && i < fresh.length && from + i < now.parts.length; i++) {
                now.parts[from + i] = fresh[i];
            }
            now.constraints += n;
            if (n > 0) {
                changed(ALL_CONSTRAINTS);
            }
        }

        int liftConstraint(int i) {
            if (i < 0 || i >= now.constraints) {
                return NONE;
            }
            for (int part = PARTS * (i + 1); part < PARTS * now.constraints; part++) {
                now.parts[part - PARTS] = now.parts[part];
            }
            now.constraints--;
            changed(ALL_CONSTRAINTS);
            return now.constraints;
        }

        int spreadAll(Spreader spreader) {
            spreader.begin(now);
            if (!spreader.spread(now, CONSTRAINT_SETS - 1)) {
                return -2;
            }
            int gone = 0;
            for (int x = 0; x < VARIABLES; x++) {
                gone += variableBecomes(x, spreader.left[x]);
            }
            return gone;
        }

        int openLevel() {
            if (depth >= MOST_LEVELS) {
                return -2;
            }
            levels[depth].begin(now);
            depth++;
            return depth;
        }

        void closeTo(int n) {
            if (n >= 0 && n < depth) {
                now.become(levels[n].opened);
                depth = n;
            }
        }

        /** How many things of the committed level's trail were on the one below. */
        int commitLevel() {
            if (depth == 0) {
                return 0;
            }
            depth--;
            if (depth == 0) {
                return 0;
            }
            Level gone = levels[depth];
            Level below = levels[depth - 1];
            int ahead = below.size;
            for (int i = 0; i < gone.size; i++) {
                below.put(gone.passed[i]);
            }
            return gone.size - (below.size - ahead);
        }

        int thingsOnTrails() {
            int sum = 0;
            for (int d = 0; d < depth; d++) {
                sum += levels[d].size;
            }
            return sum;
        }
    }

    /** Spreads on values of its own, so that a question changes nothing. */
    private static final class Spreader {
        final int[] left = new int[VARIABLES];

        void begin(Things things) {
            System.arraycopy(things.left, 0, left, 0, VARIABLES);
        }

        /** The values below a limit. */
        static int below(int limit) {
            return limit <= 0 ? 0 : limit >= VALUES ? ALL_VALUES : (1 << limit) - 1;
        }

        private static int moved(int bits, int by) {
            return (by >= 0 ? bits << by : bits >>> -by) & ALL_VALUES;
        }

        int valuesLeft() {
            int sum = 0;
            for (int bits : left) {
                sum += Integer.bitCount(bits);
            }
            return sum;
        }

        /** With the constraints of a set alone; false: it fails, and what is left then means nothing. */
        boolean spread(Things things, int set) {
            int[] parts = things.parts;
            int ahead = valuesLeft();
            // each pass but the last takes a value at least
            for (int pass = 0; pass <= VARIABLES * VALUES; pass++) {
                for (int i = 0; i < things.constraints; i++) {
                    if ((set >>> i & 1) == 1) {
                        int p = PARTS * i;
                        boolean borne = parts[p] == ALL_DIFFERENT
                                ? bearAllDifferent(parts[p + 1])
                                : bearTwo(parts[p], parts[p + 1], parts[p + 2], parts[p + 3]);
                        if (!borne) {
                            return false;
                        }
                    }
                }
                int behind = valuesLeft();
                if (behind == ahead) {
                    return true;
                }
                ahead = behind;
            }
            return true;
        }

        private boolean bearTwo(int sort, int x, int y, int d) {
            if (sort == LESS) {
                left[x] &= below(31 - Integer.numberOfLeadingZeros(left[y]) + d);
                left[y] &= ~below(Integer.numberOfTrailingZeros(left[x]) - d + 1);
            } else if (sort == EQUAL) {
                left[x] &= moved(left[y], d);
                left[y] &= moved(left[x], -d);
            } else {
                // two values or more leave each value of the other one that it can be with
                if (Integer.bitCount(left[y]) == 1) {
                    left[x] &= ~moved(left[y], d);
                }
                if (Integer.bitCount(left[x]) == 1) {
                    left[y] &= ~moved(left[x], -d);
                }
            }
            return left[x] != 0 && left[y] != 0;
        }

        /**
         * By Hall's theorem: some variables with fewer values than they are can't all differ, and some with just
         * as many values take these from all others; nothing else goes.
         */
        private boolean bearAllDifferent(int set) {
            for (int part = 1; part <= set; part++) {
                if ((part & ~set) == 0) {
                    int union = unionOf(part);
                    int spareValues = Integer.bitCount(union) - Integer.bitCount(part);
                    if (spareValues < 0 || spareValues == 0 && !takeFrom(set & ~part, union)) {
                        return false;
                    }
                }
            }
            return true;
        }

        private int unionOf(int part) {
            int union = 0;
            for (int x = 0; x < VARIABLES; x++) {
                if ((part >>> x & 1) == 1) {
                    union |= left[x];
                }
            }
            return union;
        }

        private boolean takeFrom(int others, int values) {
            for (int x = 0; x < VARIABLES; x++) {
                if ((others >>> x & 1) == 1) {
                    left[x] &= ~values;
                    if (left[x] == 0) {
                        return false;
                    }
                }
            }
            return true;
        }
    }

    /** Goes through rows of values in order: the solutions, or all rows with what each breaks. */
    private static final class Walk {
        /** More steps than any walk from one row to the next can need. */
        private static final int MOST_STEPS = 1000000;

        final int[] at = new int[VARIABLES];
        private final Things things;
        /** By variable: constraints that are broken by values up to it. */
        private final int[] broken = new int[VARIABLES];
        private boolean heeding;
        private boolean begun;

        Walk(Things things) {
            this.things = things;
        }

        void begin(boolean solutionsOnly) {
            heeding = solutionsOnly;
            begun = false;
        }

        int brokenInAll() {
            return broken[VARIABLES - 1];
        }

        boolean advance() {
            int x = VARIABLES - 1;
            if (!begun) {
                begun = true;
                x = 0;
                at[0] = NONE;
            }
            for (int step = 0; step < MOST_STEPS && x >= 0; step++) {
                int rest = things.left[x] & ~Spreader.below(at[x] + 1);
                if (rest == 0) {
                    x--;
                    continue;
                }
                at[x] = Integer.numberOfTrailingZeros(rest);
                broken[x] = brokenAt(x) | (x == 0 ? 0 : broken[x - 1]);
                if (heeding && broken[x] != 0) {
                    continue;
                }
                if (x == VARIABLES - 1) {
                    return true;
                }
                x++;
                at[x] = NONE;
            }
            return false;
        }

        /** Constraints that the value of x breaks with those of the variables ahead of it. */
        private int brokenAt(int x) {
            int set = 0;
            for (int i = 0; i < things.constraints; i++) {
                int p = PARTS * i;
                if (things.parts[p] == ALL_DIFFERENT ? repeats(things.parts[p + 1], x) : breaks(p, x)) {
                    set |= 1 << i;
                }
            }
            return set;
        }

        private boolean repeats(int set, int x) {
            if ((set >>> x & 1) == 0) {
                return false;
            }
            for (int y = 0; y < x; y++) {
                if ((set >>> y & 1) == 1 && at[y] == at[x]) {
                    return true;
                }
            }
            return false;
        }

        private boolean breaks(int p, int last) {
            int x = things.parts[p + 1];
            int y = things.parts[p + 2];
            if (Math.max(x, y) != last) {
                return false;
            }
            int other = at[y] + things.parts[p + 3];
            switch (things.parts[p]) {
                case LESS:
                    return at[x] >= other;
                case EQUAL:
                    return at[x] != other;
                default:
                    return at[x] == other;
            }
        }
    }

    /** The search, node by node, on the spreader's values. */
    private static final class Search {
        private final Things things;
        private final Spreader spreader;
        /** Values ahead of a node, by how many nodes are around it. */
        private final int[][] ahead = new int[VARIABLES][VARIABLES];
        private int way;
        int nodes;
        int failed;
        int deepest;
        int changes;

        Search(Things things, Spreader spreader) {
            this.things = things;
            this.spreader = spreader;
        }

        int seek(int byWay) {
            way = byWay;
            nodes = 0;
            failed = 0;
            deepest = 0;
            changes = 0;
            spreader.begin(things);
            if (!spreader.spread(things, CONSTRAINT_SETS - 1)) {
                failed = 1;
                return 0;
            }
            changes = changesSince(things.left);
            return seekIn(0);
        }

        private int seekIn(int around) {
            int x = chosen();
            if (x == NONE) {
                return 1;
            }
            // each node settles a variable, so that no node can be in as many
            if (around >= VARIABLES) {
                return 0;
            }
            int[] were = ahead[around];
            System.arraycopy(spreader.left, 0, were, 0, VARIABLES);
            for (int v = 0; v < VALUES; v++) {
                if ((were[x] >>> v & 1) == 1) {
                    if (nodes >= MOST_NODES) {
                        return 2;
                    }
                    int answer = enter(x, v, around);
                    if (answer != 0) {
                        return answer;
                    }
                    System.arraycopy(were, 0, spreader.left, 0, VARIABLES);
                }
            }
            return 0;
        }

        private int enter(int x, int v, int around) {
            nodes++;
            deepest = Math.max(deepest, around + 1);
            spreader.left[x] = 1 << v;
            if (!spreader.spread(things, CONSTRAINT_SETS - 1)) {
                failed++;
                changes++;
                return 0;
            }
            changes += changesSince(ahead[around]);
            return seekIn(around + 1);
        }

        private int changesSince(int[] were) {
            int sum = 0;
            for (int x = 0; x < VARIABLES; x++) {
                if (spreader.left[x] != were[x]) {
                    sum++;
                }
            }
            return sum;
        }

        /** NONE: each variable has one value. */
        private int chosen() {
            int chosen = NONE;
            for (int x = 0; x < VARIABLES; x++) {
                if (Integer.bitCount(spreader.left[x]) > 1 && (chosen == NONE || isBetter(x, chosen))) {
                    chosen = x;
                }
            }
            return chosen;
        }

        private boolean isBetter(int x, int chosen) {
            switch (way) {
                case 0:
                    return false;
                case 1:
                    return Integer.bitCount(spreader.left[x]) < Integer.bitCount(spreader.left[chosen]);
                default:
                    return constraintsOf(x) > constraintsOf(chosen);
            }
        }

        private int constraintsOf(int x) {
            int sum = 0;
            for (int i = 0; i < things.constraints; i++) {
                int p = PARTS * i;
                boolean has = things.parts[p] == ALL_DIFFERENT
                        ? (things.parts[p + 1] >>> x & 1) == 1
                        : things.parts[p + 1] == x || things.parts[p + 2] == x;
                if (has) {
                    sum++;
                }
            }
            return sum;
        }
    }

    /** Reads constraints from the text. */
    private static final class Posting {
        final int[] fresh = new int[PARTS * MOST_CONSTRAINTS];
        /** All that the text tells, though only as many are held as could come. */
        int found;
        private final Text text;

        Posting(Text text) {
            this.text = text;
        }

        /** The place of the sign that can't stand there, or NONE. */
        int fault() {
            found = 0;
            if (text.size == 0) {
                return NONE;
            }
            int p = 0;
            for (int n = 0; n < MOST_SIGNS; n++) {
                int behind = text.signAt(p) == '!' ? readSet(p) : readTwo(p);
                if (behind < 0) {
                    return -1 - behind;
                }
                if (behind == text.size) {
                    return NONE;
                }
                if (text.signAt(behind) != ',') {
                    return behind;
                }
                p = behind + 1;
            }
            return NONE;
        }

        /** The place behind it, or -1 - p: the sign at p can't stand there. */
        private int readTwo(int p) {
            int x = text.variableAt(p);
            if (x == NONE) {
                return -1 - p;
            }
            int sort = sortAt(p + 1);
            if (sort == NONE) {
                return -2 - p;
            }
            int y = text.variableAt(p + 2);
            if (y == NONE || y == x) {
                return -3 - p;
            }
            int sign = text.signAt(p + 3);
            if (sign != '+' && sign != '-') {
                hold(sort, x, y, 0);
                return p + 3;
            }
            int d = text.digitAt(p + 4);
            if (d == NONE) {
                return -5 - p;
            }
            hold(sort, x, y, sign == '+' ? d : -d);
            return p + 5;
        }

        private int readSet(int p) {
            int set = 0;
            int q = p + 1;
            for (int n = 0; n < VARIABLES; n++) {
                int x = text.variableAt(q);
                if (x == NONE || (set >>> x & 1) == 1) {
                    break;
                }
                set |= 1 << x;
                q++;
            }
            if (Integer.bitCount(set) < 2) {
                return -1 - q;
            }
            hold(ALL_DIFFERENT, set, 0, 0);
            return q;
        }

        private int sortAt(int p) {
            switch (text.signAt(p)) {
                case '<':
                    return LESS;
                case '=':
                    return EQUAL;
                case '#':
                    return UNEQUAL;
                default:
                    return NONE;
            }
        }

        private void hold(int sort, int x, int y, int d) {
            if (found < MOST_CONSTRAINTS) {
                int p = PARTS * found;
                fresh[p] = sort;
                fresh[p + 1] = x;
                fresh[p + 2] = y;
                fresh[p + 3] = d;
            }
            found++;
        }
    }

    /** Reads a RUN from the text, and does it. */
    private static final class Runner {
        private static final int MOST_NESTED = 4;
        private static final int SET = 0;
        private static final int ADD = 1;
        private static final int SUBTRACT = 2;
        private static final int TAKE = 3;
        private static final int FIX = 4;
        private static final int LIMIT_HIGH = 5;
        private static final int LIMIT_LOW = 6;
        private static final int PUT = 7;
        private static final int DROP = 8;
        private static final int SPREAD = 9;
        private static final int ASK_BELOW = 10;
        private static final int ASK_EQUAL = 11;
        private static final int ASK_ABOVE = 12;
        private static final int ASK_VALUE = 13;
        private static final int ASK_KEY = 14;
        private static final int ACTS = 15;

        private final Store store;
        private final Text text;
        private final Spreader spreader;
        private final int[] open = new int[MOST_NESTED];
        /** Where it is; when something was refused, where that begins. */
        int at;
        /** Acts that were done and not undone. */
        int done;

        Runner(Store store, Text text, Spreader spreader) {
            this.store = store;
            this.text = text;
            this.spreader = spreader;
        }

        /** The signs of each act; for which ones A, v, d and e stand, mayStand says. */
        private static String form(int act) {
            switch (act) {
                case SET:
                    return "A=dd";
                case ADD:
                    return "A+dd";
                case SUBTRACT:
                    return "A-dd";
                case TAKE:
                    return "v-e";
                case FIX:
                    return "v=e";
                case LIMIT_HIGH:
                    return "v<e";
                case LIMIT_LOW:
                    return "v>e";
                case PUT:
                    return "kd=dd";
                case DROP:
                    return "kd-";
                case SPREAD:
                    return "p";
                case ASK_BELOW:
                    return "?A<dd";
                case ASK_EQUAL:
                    return "?A=dd";
                case ASK_ABOVE:
                    return "?A>dd";
                case ASK_VALUE:
                    return "?ve";
                default:
                    return "?kd";
            }
        }

        private static boolean mayStand(int sign, char wanted) {
            switch (wanted) {
                case 'A':
                    return sign >= 'A' && sign <= 'F';
                case 'v':
                    return sign >= 'v' && sign <= 'z';
                case 'd':
                    return sign >= '0' && sign <= '9';
                case 'e':
                    return sign >= '0' && sign <= '5';
                default:
                    return sign == wanted;
            }
        }

        private static boolean isOpener(int sign) {
            return sign == '(' || sign == '[' || sign == '{';
        }

        private static boolean isCloser(int sign) {
            return sign == ')' || sign == ']' || sign == '}';
        }

        private static boolean belongs(int sign, int opener) {
            switch (opener) {
                case '(':
                    return sign == ')';
                case '[':
                    return sign == ']';
                default:
                    return sign == '}' || sign == '|';
            }
        }

        private int signsOf(int act, int p) {
            String form = form(act);
            int n = 0;
            while (n < form.length() && mayStand(text.signAt(p + n), form.charAt(n))) {
                n++;
            }
            return n;
        }

        private int actAt(int p) {
            for (int act = 0; act < ACTS; act++) {
                if (signsOf(act, p) == form(act).length()) {
                    return act;
                }
            }
            return NONE;
        }

        /** No act is there: the first sign that goes on with none of them. */
        private int faultIn(int p) {
            int most = 0;
            for (int act = 0; act < ACTS; act++) {
                most = Math.max(most, signsOf(act, p));
            }
            return p + most;
        }

        /** The place of the sign that can't stand there, or NONE. */
        int fault() {
            int nested = 0;
            int p = 0;
            for (int n = 0; n < MOST_SIGNS && p < text.size; n++) {
                int sign = text.signAt(p);
                if (isOpener(sign)) {
                    if (nested >= MOST_NESTED) {
                        return p;
                    }
                    open[nested] = sign;
                    nested++;
                    p++;
                } else if (sign == '|' || isCloser(sign)) {
                    if (nested == 0 || !belongs(sign, open[nested - 1])) {
                        return p;
                    }
                    nested -= sign == '|' ? 0 : 1;
                    p++;
                } else {
                    int act = actAt(p);
                    if (act == NONE) {
                        return faultIn(p);
                    }
                    p += form(act).length();
                }
            }
            return nested > 0 ? p : NONE;
        }

        void begin() {
            at = 0;
            done = 0;
        }

        /** Does what stands from here to the RUN's end; false: what begins here then was refused. */
        private boolean doRun(int nested) {
            for (int n = 0; n <= MOST_SIGNS; n++) {
                int sign = text.signAt(at);
                if (sign == NONE || sign == '|' || isCloser(sign)) {
                    return true;
                }
                int begin = at;
                boolean accepted = isOpener(sign) ? doBlock(nested + 1) : doAct(actAt(at));
                if (!accepted) {
                    at = begin;
                    return false;
                }
            }
            return true;
        }

        private boolean doBlock(int nested) {
            if (nested > MOST_NESTED || store.depth >= MOST_LEVELS) {
                return false;
            }
            int opener = text.signAt(at);
            int from = at + 1;
            int closer = endFrom(from, false);
            int doneAhead = done;
            for (int n = 0; n < MOST_SIGNS && from <= closer; n++) {
                store.openLevel();
                at = from;
                boolean isDone = doRun(nested);
                if (isDone && opener != '[') {
                    store.commitLevel();
                } else {
                    store.closeTo(store.depth - 1);
                    done = doneAhead;
                }
                if (isDone || opener == '(') {
                    at = closer + 1;
                    return true;
                }
                from = endFrom(from, true) + 1;
            }
            return false;
        }

        /** Where the block that this is in ends, or, if that is asked for, its next RUN's bar stands. */
        private int endFrom(int from, boolean barToo) {
            int nested = 0;
            for (int p = from; p < text.size; p++) {
                int sign = text.signAt(p);
                if (nested == 0 && (isCloser(sign) || barToo && sign == '|')) {
                    return p;
                }
                nested += isOpener(sign) ? 1 : isCloser(sign) ? -1 : 0;
            }
            return text.size;
        }

        private boolean doAct(int act) {
            boolean accepted;
            switch (act) {
                case SET:
                    accepted = store.setCell(text.cellAt(at), text.twoDigitsAt(at + 2)) >= 0;
                    break;
                case ADD:
                    accepted = store.addToCell(text.cellAt(at), text.twoDigitsAt(at + 2)) >= 0;
                    break;
                case SUBTRACT:
                    accepted = store.addToCell(text.cellAt(at), -text.twoDigitsAt(at + 2)) >= 0;
                    break;
                case TAKE:
                    accepted = store.takeValue(text.variableAt(at), text.digitAt(at + 2)) >= 0;
                    break;
                case FIX:
                    accepted = store.fixVariable(text.variableAt(at), text.digitAt(at + 2)) >= 0;
                    break;
                case LIMIT_HIGH:
                    accepted = store.limitVariable(text.variableAt(at), 0, text.digitAt(at + 2)) >= 0;
                    break;
                case LIMIT_LOW:
                    accepted = store.limitVariable(text.variableAt(at), text.digitAt(at + 2), VALUES - 1) >= 0;
                    break;
                case PUT:
                    accepted = store.putKey(text.digitAt(at + 1), text.twoDigitsAt(at + 3)) >= 0;
                    break;
                case DROP:
                    accepted = store.dropKey(text.digitAt(at + 1)) >= 0;
                    break;
                case SPREAD:
                    accepted = store.spreadAll(spreader) >= 0;
                    break;
                default:
                    accepted = isSo(act);
                    break;
            }
            if (accepted) {
                at += form(act).length();
                done++;
            }
            return accepted;
        }

        private boolean isSo(int act) {
            int i = text.cellAt(at + 1);
            int number = isCell(i) ? store.now.numbers[i] : 0;
            switch (act) {
                case ASK_BELOW:
                    return number < text.twoDigitsAt(at + 3);
                case ASK_EQUAL:
                    return number == text.twoDigitsAt(at + 3);
                case ASK_ABOVE:
                    return number > text.twoDigitsAt(at + 3);
                case ASK_VALUE:
                    return store.now.hasValue(text.variableAt(at + 1), text.digitAt(at + 2));
                case ASK_KEY:
                    return store.now.placeOf(text.digitAt(at + 2)) != NONE;
                default:
                    return false;
            }
        }
    }

    /** What was heard of a solution. */
    private static final class Hearsay {
        private final int[] variables = new int[MOST_HEARD];
        private final int[] heardValues = new int[MOST_HEARD];
        private final int[] truths = new int[MOST_HEARD];
        int size;

        int add(int x, int v, int is) {
            if (size >= MOST_HEARD) {
                return NONE;
            }
            variables[size] = x;
            heardValues[size] = v;
            truths[size] = is;
            size++;
            return size;
        }

        boolean agrees(int[] solution) {
            for (int i = 0; i < size; i++) {
                boolean equal = solution[variables[i]] == heardValues[i];
                if (equal != (truths[i] == 1)) {
                    return false;
                }
            }
            return true;
        }
    }
}
