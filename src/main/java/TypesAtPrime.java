import java.util.Arrays;

/**
 * How a polynomial with 1 in front splits at a prime: its tree of types, leaves and index.
 * The words (KNOT, LEAF, SIDE, HEAD ..) are those of the document.
 */
public final class TypesAtPrime {
    public static final int BAD = -1, NONE = -2, NOT = -3, FULL = -4, WIDE = -5, DEEP = -6, NOTHING = -11, OUTSIDE = -12, SORT = -13, SIZE = -14, BY_NOUGHT = -15;
    public static final long NO = Long.MIN_VALUE;

    private static final int SLOTS = 5, POWERS = 9, GREATEST = 9999, ZERO_DEGREE = -10, FAULT_BASE = -100;
    private static final int TAPE_ROOM = 80, SHEETS = 4, SHEET_ROOM = 40;
    private static final int DEEPEST = 6, LEVELS = 8, KNOT_ROOM = 24, SIDE_ROOM = 48, LEAF_ROOM = 16, SPELLING_ROOM = 80;
    private static final int DECIDED = 0, EXACT = 1, HARD = 2, TOO_DEEP = 3, LOST = 4;
    private static final int WORD_PRIME = 8, WORDS = 9;
    private static final int[] PRIMES = {2, 3, 5, 7};
    private static final int[] LIMITS = {28, 18, 12, 10};

    private final Numbers numbers;
    private final byte[] tape;
    private int tapeSize;
    private final int[][] slots;
    private final Sheet[] sheets;
    private final TextReader reader;
    private final Factors factors;
    private final Tree tree;
    private final Grower grower;
    private final long[] expanded;
    private final long[] mixed;
    private final int[] corners;

    public TypesAtPrime() {
        numbers = new Numbers();
        tape = new byte[TAPE_ROOM];
        slots = new int[SLOTS][POWERS];
        sheets = new Sheet[SHEETS];
        for (int i = 0; i < SHEETS; i++) sheets[i] = new Sheet();
        reader = new TextReader();
        factors = new Factors();
        tree = new Tree();
        grower = new Grower(numbers, tree);
        expanded = new long[POWERS];
        mixed = new long[2 * POWERS];
        corners = new int[SHEET_ROOM];
    }

    // ---- polynomials

    public int prime(int p) {
        int was = numbers.prime;
        if (!numbers.choose(p)) return BAD;
        tree.fell();
        return was;
    }

    public int feed(int letter) {
        if (letter < 0 || letter > 127) return BAD;
        if (tapeSize < 0 || tapeSize >= tape.length) return FULL;
        tape[tapeSize] = (byte) letter;
        tapeSize++;
        return tapeSize;
    }

    public int wipe() {
        int had = tapeSize;
        tapeSize = 0;
        return had;
    }

    public int text(int slot) {
        if (!isSlot(slot)) return BAD;
        int fault = reader.read(tape, tapeSize);
        tapeSize = 0;
        if (fault >= 0) return FAULT_BASE - fault;
        for (int k = 0; k < POWERS; k++) mixed[k] = reader.sums[k];
        if (!store(slot)) return NOT;
        return toldDegree(slot);
    }

    public long set(int slot, int k, int v) {
        if (!isSlot(slot) || !isPower(k) || !isCoefficient(v)) return NO;
        int was = slots[slot][k];
        slots[slot][k] = v;
        return was;
    }

    public long at(int slot, int k) {
        if (!isSlot(slot) || !isPower(k)) return NO;
        return slots[slot][k];
    }

    public int told(int slot, int what) {
        if (!isSlot(slot)) return BAD;
        if (what == 0) return toldDegree(slot);
        if (what == 1) return isMonic(slot) ? 1 : 0;
        return BAD;
    }

    public int mix(int one, int a, int other, int b, int to) {
        if (!isSlot(one) || !isSlot(other) || !isSlot(to)) return BAD;
        for (int k = 0; k < POWERS; k++) mixed[k] = (long) a * slots[one][k] + (long) b * slots[other][k];
        return store(to) ? 1 : NOT;
    }

    public int times(int one, int other, int to) {
        if (!isSlot(one) || !isSlot(other) || !isSlot(to)) return BAD;
        int first = degreeOf(slots[one]), second = degreeOf(slots[other]);
        if (first >= 0 && second >= 0 && first + second >= POWERS) return DEEP;
        Arrays.fill(mixed, 0L);
        for (int i = 0; i < POWERS; i++) {
            for (int j = 0; j < POWERS; j++) mixed[i + j] += (long) slots[one][i] * slots[other][j];
        }
        return store(to) ? 1 : NOT;
    }

    public long worth(int slot, int x) {
        if (!isSlot(slot)) return NO;
        long h = 0;
        for (int k = POWERS - 1; k >= 0; k--) {
            if (!isLongProduct(h, x)) return NO;
            long product = h * x;
            h = product + slots[slot][k];
            if (((product ^ h) & (slots[slot][k] ^ h)) < 0) return NO;
        }
        return h;
    }

    public long expansion(int slot, int by, int i, int k) {
        if (!isSlot(slot) || !isSlot(by) || !isPower(i) || !isPower(k) || !isMonic(by)) return NO;
        int degree = degreeOf(slots[by]);
        int place = i * degree + k;
        if (k >= degree || place >= POWERS) return 0;
        for (int j = 0; j < POWERS; j++) {
            expanded[j] = numbers.rest(slots[slot][j]);
            mixed[j] = numbers.rest(slots[by][j]);
        }
        numbers.expand(expanded, 0, POWERS, mixed, degree);
        return expanded[place];
    }

    public long factor(int slot, int i, int what) {
        if (!isSlot(slot) || what < -3 || what >= POWERS) return NO;
        if (!factors.find(slots[slot], numbers.prime)) return NO;
        if (what == -1) return factors.count;
        if (i < 0 || i >= factors.count || i >= POWERS) return NO;
        if (what == -2) return factors.times[i];
        if (what == -3) return factors.degrees[i];
        return factors.rows[i][what];
    }

    // ---- the tree

    public int grow(int slot) {
        if (!isSlot(slot)) return BAD;
        if (!isMonic(slot)) return NOT;
        grower.plant(slots[slot], degreeOf(slots[slot]));
        return tree.leafCount;
    }

    public int tree(int what) {
        if (what < 0 || what > 7) return BAD;
        if (!tree.stands) return NONE;
        switch (what) {
            case 0: return tree.knotCount;
            case 1: return tree.leafCount;
            case 2: return tree.wholeIndex();
            case 3: return tree.openDegree();
            case 4: return tree.greatestRamification();
            case 5: return tree.greatestLevel();
            case 6: return tree.spellingSize;
            default: return tree.degree;
        }
    }

    public int knot(int i, int what) {
        if (what < 0 || what > 6) return BAD;
        Knot knot = tree.knotAt(i);
        if (knot == null) return NONE;
        switch (what) {
            case 0: return knot.level;
            case 1: return knot.manifold;
            case 2: return knot.degree;
            case 3: return knot.sideCount;
            case 4: return knot.index;
            case 5: return knot.above;
            default: return knot.first;
        }
    }

    public long key(int i, int k) {
        Knot knot = tree.knotAt(i);
        if (knot == null || !isPower(k)) return NO;
        return knot.key[k];
    }

    public int point(int i, int k) {
        if (!isPower(k)) return BAD;
        Knot knot = tree.knotAt(i);
        if (knot == null || knot.points[k] < 0) return NONE;
        return knot.points[k];
    }

    public int side(int i, int j, int what) {
        if (what < 0 || what > 5) return BAD;
        Side side = tree.sideAt(i, j);
        if (side == null) return NONE;
        switch (what) {
            case 0: return side.begin;
            case 1: return side.end;
            case 2: return side.fall;
            case 3: return side.ramification;
            case 4: return side.parts;
            default: return side.slopeValue;
        }
    }

    public int residual(int i, int j, int k) {
        if (!isPower(k)) return BAD;
        Side side = tree.sideAt(i, j);
        if (side == null) return NONE;
        return side.residual[k];
    }

    public int monomial(int i, int j, int what) {
        if (what < 0 || what > DEEPEST) return BAD;
        Side side = tree.sideAt(i, j);
        if (side == null) return NONE;
        return side.monomial[what];
    }

    public int leaf(int i, int what) {
        if (what < 0 || what > 4) return BAD;
        Leaf leaf = tree.leafAt(i);
        if (leaf == null) return NONE;
        switch (what) {
            case 0: return leaf.kind;
            case 1: return leaf.ramification;
            case 2: return leaf.residueDegree;
            case 3: return leaf.degree;
            default: return leaf.knot;
        }
    }

    public int spelling(int i) {
        if (!tree.stands || i < 0 || i >= tree.spellingSize || i >= tree.spelling.length) return NONE;
        return tree.spelling[i];
    }

    public int ask() {
        int found = 0;
        while (found < WORDS && !tapeSays(word(found))) found++;
        tapeSize = 0;
        if (found == WORDS) return NOT;
        return found == WORD_PRIME ? numbers.prime : tree(found);
    }

    // ---- sheets

    public int corner(int sheet, int i) {
        Sheet row = sheetAt(sheet);
        if (row == null) return BAD;
        if (row.isMissing()) return NOTHING;
        int first = row.firstPoint();
        if (first < 0) return NONE;
        int many = findCorners(row.numbers, first, row.lastPoint(), corners);
        if (i < 0 || i >= many || i >= corners.length) return NONE;
        return corners[i];
    }

    public long slope(int sheet, int i, int j, int what) {
        if (what < 0 || what > 1 || whyNot(sheet, i, j) != 0) return NO;
        Sheet row = sheetAt(sheet);
        if (row == null || !row.has(i) || !row.has(j)) return NO;
        long fall = (long) row.numbers[i] - row.numbers[j];
        long width = (long) j - i;
        if (width == 0) return NO;
        return what == 0 ? fall / width : fall % width;
    }

    public int whyNot(int sheet, int i, int j) {
        Sheet row = sheetAt(sheet);
        if (row == null) return BAD;
        if (row.isMissing()) return NOTHING;
        if (!row.has(i) || !row.has(j)) return OUTSIDE;
        return i == j ? BY_NOUGHT : 0;
    }

    public int spill(int i, int sheet, int from) {
        Sheet row = sheetAt(sheet);
        if (row == null) return BAD;
        Knot knot = tree.knotAt(i);
        if (knot == null) return NONE;
        if (row.isMissing()) return NOTHING;
        if (from < 0 || from > row.size) return OUTSIDE;
        int many = Math.min(POWERS, row.size - from);
        for (int k = 0; k < many; k++) row.put(from + k, knot.points[k]);
        return many;
    }

    public int sheet(int sheet, int sort, int n) {
        Sheet row = sheetAt(sheet);
        if (row == null || sort < -1 || sort > 1) return BAD;
        if (sort >= 0 && n > SHEET_ROOM) return BAD;
        if (sort >= 0 && n < 0) return SIZE;
        row.become(sort, n);
        return 1;
    }

    public int cell(int sheet, int i, int v) {
        Sheet row = sheetAt(sheet);
        if (row == null) return BAD;
        if (row.isMissing()) return NOTHING;
        if (!row.has(i)) return OUTSIDE;
        row.put(i, v);
        return 1;
    }

    public long item(int sheet, int i) {
        Sheet row = sheetAt(sheet);
        if (row == null || !row.has(i)) return NO;
        return row.numbers[i];
    }

    public int shift(int sheet, int i, int other, int j, int n) {
        Sheet from = sheetAt(sheet), to = sheetAt(other);
        if (from == null || to == null) return BAD;
        if (from.isMissing() || to.isMissing()) return NOTHING;
        if (from.sort != to.sort) return SORT;
        if (!from.hasRun(i, n) || !to.hasRun(j, n)) return OUTSIDE;
        System.arraycopy(from.numbers, i, to.numbers, j, n);
        return n;
    }

    public int count(int what) {
        switch (what) {
            case 0: return numbers.prime;
            case 1: return numbers.limit;
            case 2: return tapeSize;
            case 3: return slotsInUse();
            case 4: return sheetsInUse();
            case 5: return tree.stands ? 1 : 0;
            default: return BAD;
        }
    }

    // ---- what the calls share

    private static boolean isSlot(int slot) {
        return slot >= 0 && slot < SLOTS;
    }

    private static boolean isPower(int k) {
        return k >= 0 && k < POWERS;
    }

    private static boolean isCoefficient(long v) {
        return v >= -GREATEST && v <= GREATEST;
    }

    private static int degreeOf(int[] row) {
        int k = row.length - 1;
        while (k >= 0 && row[k] == 0) k--;
        return k;
    }

    private int toldDegree(int slot) {
        int degree = degreeOf(slots[slot]);
        return degree < 0 ? ZERO_DEGREE : degree;
    }

    private boolean isMonic(int slot) {
        int degree = degreeOf(slots[slot]);
        return degree >= 1 && slots[slot][degree] == 1;
    }

    /** The first places of the mixed row become a SLOT's, all of them or none. */
    private boolean store(int slot) {
        for (int k = 0; k < POWERS; k++) {
            if (!isCoefficient(mixed[k])) return false;
        }
        for (int k = 0; k < POWERS; k++) slots[slot][k] = (int) mixed[k];
        return true;
    }

    private static boolean isLongProduct(long h, int x) {
        if (x == 0) return true;
        // the one quotient that wraps round would look as if it had come back
        if (x == -1) return h != Long.MIN_VALUE;
        return h * x / x == h;
    }

    private static String word(int number) {
        switch (number) {
            case 0: return "knots";
            case 1: return "leaves";
            case 2: return "index";
            case 3: return "open";
            case 4: return "wild";
            case 5: return "levels";
            case 6: return "size";
            case 7: return "degree";
            default: return "prime";
        }
    }

    private boolean tapeSays(String word) {
        if (word.length() != tapeSize || tapeSize > tape.length) return false;
        for (int i = 0; i < tapeSize; i++) {
            if (word.charAt(i) != tape[i]) return false;
        }
        return true;
    }

    private Sheet sheetAt(int sheet) {
        return sheet >= 0 && sheet < sheets.length ? sheets[sheet] : null;
    }

    private int slotsInUse() {
        int set = 0;
        for (int i = 0; i < SLOTS; i++) {
            if (degreeOf(slots[i]) >= 0) set |= 1 << i;
        }
        return set;
    }

    private int sheetsInUse() {
        int many = 0;
        for (int i = 0; i < SHEETS; i++) {
            Sheet row = sheetAt(i);
            if (row != null && !row.isMissing()) many++;
        }
        return many;
    }

    /**
     * Places of the corners of the lower border of a row's points (numbers from 0 on), between
     * two of them: how many. Of points in one line only the farthest counts, so that the
     * direction changes at each.
     */
    private static int findCorners(int[] row, int from, int to, int[] into) {
        if (from < 0 || to < from || to >= row.length || into.length == 0) return 0;
        int many = 1, here = from;
        into[0] = from;
        while (here < to && many < into.length) {
            int best = to;
            for (int j = to - 1; j > here; j--) {
                if (row[j] >= 0 && liesBelow(row, here, j, best)) best = j;
            }
            into[many] = best;
            many++;
            here = best;
        }
        return many;
    }

    /** Whether the line from one point to another one runs below that to a third. */
    private static boolean liesBelow(int[] row, int here, int there, int third) {
        long rise = (long) row[there] - row[here], other = (long) row[third] - row[here];
        return rise * (third - here) < other * (there - here);
    }

    private static int greatestDivisor(int a, int b) {
        int one = a, other = b;
        // halves at every second step: 64 are enough for all ints
        for (int step = 0; step < 64 && other != 0; step++) {
            int left = one % other;
            one = other;
            other = left;
        }
        return one;
    }

    private static int quotient(int a, int by) {
        return by == 0 ? 0 : a / by;
    }

    private static int remainder(int a, int by) {
        return by == 0 ? 0 : a % by;
    }

    /** THE PRIME with its LIMIT, NUMBERS taken by its power and RESIDUES taken by it. */
    private static final class Numbers {
        int prime = 3;
        int limit = 18;
        private long size = 387420489L;

        boolean choose(int p) {
            for (int i = 0; i < PRIMES.length && i < LIMITS.length; i++) {
                if (PRIMES[i] == p) {
                    prime = p;
                    limit = LIMITS[i];
                    size = 1;
                    for (int k = 0; k < limit; k++) size *= p;
                    return true;
                }
            }
            return false;
        }

        long rest(long a) {
            if (size <= 0) return 0;
            long left = a % size;
            return left < 0 ? left + size : left;
        }

        long power(int s) {
            if (s >= limit) return 0;
            long power = 1;
            for (int k = 0; k < s; k++) power *= prime;
            return power;
        }

        /** VALUE of a NUMBER; the LIMIT of 0, which has none. */
        int value(long number) {
            int s = 0;
            long left = number;
            while (s < limit && prime > 1 && left % prime == 0) {
                left /= prime;
                s++;
            }
            return s;
        }

        int residueBy(long number, int s) {
            long power = power(s);
            return power <= 0 || prime <= 0 ? 0 : (int) (number / power % prime);
        }

        /**
         * Places from .. from + size - 1 of a row become the parts of their EXPANSION by a key,
         * each in as many places as the key's degree: a division leaves what remains in the
         * low places and the quotient in those above, where the next one goes on.
         */
        void expand(long[] row, int from, int size, long[] key, int degree) {
            int end = from + size;
            if (from < 0 || size < 0 || end > row.length || degree < 1 || degree >= key.length) return;
            for (int start = from; start + degree < end; start += degree) {
                for (int top = end - 1; top >= start + degree; top--) {
                    long front = row[top];
                    if (front == 0) continue;
                    int low = top - degree;
                    for (int j = 0; j < degree; j++) row[low + j] = rest(row[low + j] - front * key[j]);
                }
            }
        }

        /** A row becomes its product with another one; powers that have no place must not come. */
        void multiply(long[] row, long[] by, long[] product) {
            int room = Math.min(row.length, Math.min(by.length, product.length));
            Arrays.fill(product, 0L);
            for (int i = 0; i < room; i++) {
                for (int j = 0; j < room - i; j++) product[i + j] = rest(product[i + j] + row[i] * by[j]);
            }
            for (int k = 0; k < room; k++) row[k] = product[k];
        }
    }

    /** The FACTORS of a polynomial over RESIDUES. */
    private static final class Factors {
        int count;
        final int[] degrees = new int[POWERS];
        final int[] times = new int[POWERS];
        final int[][] rows = new int[POWERS][POWERS];
        private int prime;
        private final int[] rest = new int[POWERS];
        private final int[] image = new int[POWERS];
        private final int[] base = new int[POWERS];
        private final int[] common = new int[POWERS];
        private final int[] other = new int[POWERS];
        private final int[] left = new int[POWERS];
        private final int[] candidate = new int[POWERS];
        private final int[] product = new int[2 * POWERS];

        /** Finds them, those of lesser degree ahead: false, if the polynomial is 0. */
        boolean find(int[] coefficients, int p) {
            count = 0;
            prime = p;
            for (int k = 0; k < POWERS; k++) rest[k] = k < coefficients.length ? residue(coefficients[k]) : 0;
            if (degreeOf(rest) < 0) return false;
            makeMonic(rest);
            Arrays.fill(image, 0);
            image[1] = 1;
            for (int d = 1; d < POWERS && 2 * d <= degreeOf(rest); d++) {
                raiseImage();
                takeCommon();
                findOfDegree(d);
                keepRemainder(image, rest, degreeOf(rest));
            }
            // what is left has no factor of up to half its degree
            if (degreeOf(rest) > 0) keep(rest, degreeOf(rest));
            return true;
        }

        private int residue(int a) {
            if (prime <= 0) return 0;
            int left = a % prime;
            return left < 0 ? left + prime : left;
        }

        private void makeMonic(int[] row) {
            int degree = degreeOf(row);
            if (degree < 0) return;
            int inverse = 1;
            while (inverse < prime && residue(inverse * row[degree]) != 1) inverse++;
            for (int k = 0; k <= degree; k++) row[k] = residue(row[k] * inverse);
        }

        /** Divides by a row of a degree with 1 in front: what remains stays below, the quotient above. */
        private void divide(int[] row, int[] by, int degree) {
            if (degree < 0 || degree >= by.length || prime <= 0) return;
            for (int top = row.length - 1; top >= degree; top--) {
                int low = top - degree;
                // what is taken off as often as the front tells is put on as often as it lacks to the prime
                int lack = row[top] == 0 ? 0 : prime - row[top];
                if (lack == 0) continue;
                for (int j = 0; j < degree; j++) row[low + j] = (row[low + j] + lack * by[j]) % prime;
            }
        }

        private void keepRemainder(int[] row, int[] by, int degree) {
            divide(row, by, degree);
            for (int k = Math.max(0, degree); k < row.length; k++) row[k] = 0;
        }

        /** The image of x becomes its power to the prime, by what is left. */
        private void raiseImage() {
            System.arraycopy(image, 0, base, 0, POWERS);
            for (int n = 1; n < prime; n++) {
                Arrays.fill(product, 0);
                for (int i = 0; i < POWERS; i++) {
                    if (image[i] == 0) continue;
                    for (int j = 0; j < POWERS; j++) product[i + j] += image[i] * base[j];
                }
                for (int k = 0; k < product.length; k++) product[k] = residue(product[k]);
                keepRemainder(product, rest, degreeOf(rest));
                System.arraycopy(product, 0, image, 0, POWERS);
            }
        }

        /**
         * What the rest and its image less x have in common: the product of all irreducible
         * ones whose degree has come, each once, as those of lesser degree are gone.
         */
        private void takeCommon() {
            int[] one = common, two = other;
            System.arraycopy(rest, 0, one, 0, POWERS);
            System.arraycopy(image, 0, two, 0, POWERS);
            two[1] = residue(two[1] - 1);
            for (int step = 0; step <= POWERS && degreeOf(two) >= 0; step++) {
                makeMonic(two);
                keepRemainder(one, two, degreeOf(two));
                int[] next = one;
                one = two;
                two = next;
            }
            System.arraycopy(one, 0, common, 0, POWERS);
        }

        private void findOfDegree(int d) {
            int numbers = 1;
            for (int k = 0; k < d; k++) numbers *= prime;
            for (int number = 0; number < numbers && degreeOf(common) > d; number++) {
                writeCandidate(number, d);
                if (splitOff(common, candidate, d)) keep(candidate, d);
            }
            if (degreeOf(common) == d) keep(common, d);
        }

        private void writeCandidate(int number, int d) {
            int digits = number;
            for (int k = 0; k < POWERS; k++) {
                candidate[k] = k < d ? remainder(digits, prime) : k == d ? 1 : 0;
                digits = quotient(digits, prime);
            }
        }

        private void keep(int[] row, int d) {
            if (count < 0 || count >= POWERS) return;
            int i = count;
            count++;
            System.arraycopy(row, 0, rows[i], 0, POWERS);
            degrees[i] = d;
            times[i] = 0;
            while (times[i] < POWERS && splitOff(rest, rows[i], d)) times[i]++;
        }

        /** Divides a row by another one, if that leaves nothing. */
        private boolean splitOff(int[] row, int[] by, int d) {
            if (d < 1 || degreeOf(row) < d) return false;
            System.arraycopy(row, 0, left, 0, POWERS);
            divide(left, by, d);
            for (int k = 0; k < d && k < POWERS; k++) {
                if (left[k] != 0) return false;
            }
            for (int k = 0; k < POWERS; k++) row[k] = k + d < POWERS ? left[k + d] : 0;
            return true;
        }
    }

    /** Reads a TEXT from a tape. */
    private static final class TextReader {
        final int[] sums = new int[POWERS];
        private byte[] letters;
        private int size;
        private int place;

        /** The sums become the POLYNOMIAL that is told: -1, or the FAULT. */
        int read(byte[] tape, int many) {
            letters = tape;
            size = tape == null ? 0 : Math.min(many, tape.length);
            place = 0;
            Arrays.fill(sums, 0);
            int sign = 1;
            if (next() == '-') {
                sign = -1;
                place++;
            }
            for (int terms = 0; terms <= TAPE_ROOM; terms++) {
                if (!readTerm(sign)) return place;
                if (place == size) return -1;
                if (next() != '+' && next() != '-') return place;
                sign = next() == '-' ? -1 : 1;
                place++;
            }
            return place;
        }

        private int next() {
            return letters != null && place >= 0 && place < size && place < letters.length ? letters[place] : -1;
        }

        private boolean atDigit(char last) {
            return next() >= '0' && next() <= last;
        }

        private boolean readTerm(int sign) {
            if (!atDigit('9')) return readPower(sign);
            int number = 0;
            for (int digits = 0; digits < 4 && atDigit('9'); digits++) {
                number = 10 * number + next() - '0';
                place++;
            }
            if (next() == '*') {
                place++;
                return readPower(sign * number);
            }
            sums[0] += sign * number;
            return true;
        }

        private boolean readPower(int coefficient) {
            if (next() != 'x') return false;
            place++;
            int power = 1;
            if (next() == '^') {
                place++;
                if (!atDigit('8')) return false;
                power = next() - '0';
                place++;
            }
            if (power < 0 || power >= sums.length) return false;
            sums[power] += coefficient;
            return true;
        }
    }

    /** A row of numbers, or missing. */
    private static final class Sheet {
        int sort = -1;
        int size;
        final int[] numbers = new int[SHEET_ROOM];

        boolean isMissing() {
            return sort < 0;
        }

        void become(int newSort, int many) {
            sort = newSort;
            size = newSort < 0 ? 0 : many;
            Arrays.fill(numbers, 0);
        }

        boolean has(int i) {
            return i >= 0 && i < size && i < numbers.length;
        }

        boolean hasRun(int i, int many) {
            // no sum of the two, which might wrap round
            return i >= 0 && many >= 0 && many <= size && size <= numbers.length && i <= size - many;
        }

        void put(int i, int v) {
            if (has(i)) numbers[i] = sort == 0 ? (byte) v : v;
        }

        int firstPoint() {
            for (int i = 0; i < size && i < numbers.length; i++) {
                if (numbers[i] >= 0) return i;
            }
            return -1;
        }

        int lastPoint() {
            for (int i = Math.min(size, numbers.length) - 1; i >= 0; i--) {
                if (numbers[i] >= 0) return i;
            }
            return -1;
        }
    }

    private static final class Knot {
        int level;
        int manifold;
        int degree;
        int above;
        int first;
        int index;
        int firstSide;
        int sideCount;
        final long[] key = new long[POWERS];
        final int[] points = new int[POWERS];
    }

    private static final class Side {
        int begin;
        int end;
        int fall;
        int ramification;
        int parts;
        int slopeValue;
        final int[] monomial = new int[LEVELS];
        final int[] residual = new int[POWERS];
    }

    private static final class Leaf {
        int kind;
        int ramification;
        int residueDegree;
        int degree;
        int knot;
    }

    /** THE TREE as it is told. Its parts are made once and used again by each tree. */
    private static final class Tree {
        boolean stands;
        int degree;
        int knotCount;
        int leafCount;
        int spellingSize;
        final byte[] spelling = new byte[SPELLING_ROOM];
        private int sideCount;
        private final Knot[] knots = new Knot[KNOT_ROOM];
        private final Side[] sides = new Side[SIDE_ROOM];
        private final Leaf[] leaves = new Leaf[LEAF_ROOM];

        Tree() {
            for (int i = 0; i < KNOT_ROOM; i++) knots[i] = new Knot();
            for (int i = 0; i < SIDE_ROOM; i++) sides[i] = new Side();
            for (int i = 0; i < LEAF_ROOM; i++) leaves[i] = new Leaf();
        }

        void fell() {
            stands = false;
            degree = 0;
            knotCount = 0;
            sideCount = 0;
            leafCount = 0;
            spellingSize = 0;
        }

        Knot knotAt(int i) {
            return i >= 0 && i < knotCount && i < knots.length ? knots[i] : null;
        }

        Leaf leafAt(int i) {
            return i >= 0 && i < leafCount && i < leaves.length ? leaves[i] : null;
        }

        Side sideAt(int i, int j) {
            Knot knot = knotAt(i);
            if (knot == null || j < 0 || j >= knot.sideCount) return null;
            int place = knot.firstSide + j;
            return place >= 0 && place < sides.length ? sides[place] : null;
        }

        /** The next KNOT; its number is knotCount less 1 then. Null: there is no room. */
        Knot addKnot(int level, int manifold, int keyDegree, int above) {
            if (knotCount >= knots.length) return null;
            knotCount++;
            Knot knot = knotAt(knotCount - 1);
            if (knot == null) return null;
            knot.level = level;
            knot.manifold = manifold;
            knot.degree = keyDegree;
            knot.above = above;
            knot.first = manifold;
            knot.index = 0;
            knot.firstSide = sideCount;
            knot.sideCount = 0;
            Arrays.fill(knot.key, 0L);
            Arrays.fill(knot.points, -1);
            return knot;
        }

        /** The next SIDE of the KNOT that came last. Null: there is no room. */
        Side addSide(Knot knot) {
            if (knot == null || sideCount < 0 || sideCount >= sides.length) return null;
            Side side = sides[sideCount];
            sideCount++;
            knot.sideCount++;
            return side;
        }

        void addLeaf(int kind, int ramification, int residueDegree, int wholeDegree, int knot) {
            if (leafCount >= leaves.length) return;
            leafCount++;
            Leaf leaf = leafAt(leafCount - 1);
            if (leaf == null) return;
            leaf.kind = kind;
            leaf.ramification = ramification;
            leaf.residueDegree = residueDegree;
            leaf.degree = wholeDegree;
            leaf.knot = knot;
        }

        int wholeIndex() {
            int sum = 0;
            for (int i = 0; i < knotCount; i++) {
                Knot knot = knotAt(i);
                if (knot != null) sum += knot.index;
            }
            return sum;
        }

        int openDegree() {
            int sum = 0;
            for (int i = 0; i < leafCount; i++) {
                Leaf leaf = leafAt(i);
                if (leaf != null && leaf.kind > EXACT) sum += leaf.degree;
            }
            return sum;
        }

        int greatestRamification() {
            int greatest = 0;
            for (int i = 0; i < leafCount; i++) {
                Leaf leaf = leafAt(i);
                if (leaf != null && leaf.kind <= EXACT) greatest = Math.max(greatest, leaf.ramification);
            }
            return greatest;
        }

        int greatestLevel() {
            int greatest = 0;
            for (int i = 0; i < knotCount; i++) {
                Knot knot = knotAt(i);
                if (knot != null) greatest = Math.max(greatest, knot.level);
            }
            return greatest;
        }

        void spell() {
            spellingSize = 0;
            for (int i = 0; i < leafCount; i++) {
                Leaf leaf = leafAt(i);
                if (leaf == null) continue;
                if (i > 0) write('+');
                spellLeaf(leaf);
            }
        }

        private void spellLeaf(Leaf leaf) {
            if (leaf.kind <= EXACT) {
                writeDigit(leaf.ramification);
                write('.');
                writeDigit(leaf.residueDegree);
                if (leaf.kind == EXACT) write('!');
                return;
            }
            for (int kind = HARD; kind <= leaf.kind; kind++) write('?');
            writeDigit(leaf.degree);
        }

        /** No number of a LEAF is above the greatest DEGREE, 8. */
        private void writeDigit(int number) {
            write((char) ('0' + number));
        }

        private void write(char letter) {
            if (spellingSize < 0 || spellingSize >= spelling.length) return;
            spelling[spellingSize] = (byte) letter;
            spellingSize++;
        }
    }

    /**
     * What was found on the way to a KNOT, by levels. All VALUES at level k are told as whole
     * numbers, E times what they are; SLOPE VALUES as E e_k times what they are.
     */
    private static final class Path {
        final int[] degree = new int[LEVELS];
        final int[] ramification = new int[LEVELS];
        final int[] slopeValue = new int[LEVELS];
        final int[] root = new int[LEVELS];
        final int[][] monomial = new int[LEVELS][LEVELS];
        final long[][] key = new long[LEVELS][POWERS];

        void enterKnot(Knot knot) {
            if (knot.level < 0 || knot.level >= LEVELS) return;
            degree[knot.level] = knot.degree;
            System.arraycopy(knot.key, 0, key[knot.level], 0, POWERS);
        }

        void enterSide(int level, Side side) {
            if (level < 0 || level >= LEVELS) return;
            ramification[level] = side.ramification;
            slopeValue[level] = side.slopeValue;
            System.arraycopy(side.monomial, 0, monomial[level], 0, LEVELS);
        }

        /** b of a KNOT of a level: E times e l of the level below. */
        int lift(int level) {
            if (level < 2 || level > DEEPEST) return 0;
            return ramification[level - 1] * slopeValue[level - 1];
        }

        /** t_k of the MONOMIAL whose NUMBER stands at a place of a part that has been expanded by all keys. */
        int exponent(int place, int k) {
            if (k < 1 || k > DEEPEST) return 0;
            return remainder(quotient(place, degree[k]), ramification[k]);
        }

        /** VALUE of the MONOMIAL of a place, with s of 0, at a level. */
        int valueOfPlace(int place, int level) {
            if (level < 1 || level > DEEPEST) return 0;
            int sum = 0;
            for (int k = 1; k < level; k++) {
                int scale = quotient(degree[level], degree[k] * ramification[k]);
                sum += exponent(place, k) * slopeValue[k] * scale;
            }
            return sum;
        }

        /** Writes the MONOMIAL of a VALUE at a level: s at 0, t_k at k. */
        void writeMonomial(int value, int level, int[] into) {
            Arrays.fill(into, 0);
            int left = value;
            for (int k = Math.min(level - 1, DEEPEST); k >= 1; k--) {
                int t = 0;
                // only one exponent leaves a VALUE of the level below
                while (t < ramification[k] && remainder(left - t * slopeValue[k], ramification[k]) != 0) t++;
                if (k < into.length) into[k] = t;
                left = quotient(left - t * slopeValue[k], ramification[k]);
            }
            if (into.length > 0) into[0] = left;
        }

        /** The RESIDUE, by a prime, with which a product of MONOMIALS comes to one with small exponents. */
        int reduce(int[] exponents, int level, int p) {
            int residue = 1;
            for (int k = Math.min(level - 1, DEEPEST); k >= 1; k--) {
                if (k >= exponents.length || ramification[k] < 1) continue;
                int turns = quotient(exponents[k], ramification[k]);
                exponents[k] -= turns * ramification[k];
                for (int j = 0; j < k; j++) exponents[j] += turns * monomial[k][j];
                for (int n = 0; n < turns; n++) residue = remainder(residue * root[k], p);
            }
            return residue;
        }
    }

    /** Makes THE TREE of a polynomial. */
    private static final class Grower {
        private final Numbers numbers;
        private final Tree tree;
        private final Path path = new Path();
        private final Factors[] factors = new Factors[LEVELS];
        private final long[] polynomial = new long[POWERS];
        private final long[] parts = new long[2 * POWERS];
        private final long[] factor = new long[POWERS];
        private final long[] product = new long[POWERS];
        private final int[] placeValues = new int[POWERS];
        private final int[] heads = new int[POWERS];
        private final int[] residues = new int[POWERS];
        private final int[] corners = new int[POWERS];
        private final int[] exponents = new int[LEVELS];

        Grower(Numbers givenNumbers, Tree givenTree) {
            numbers = givenNumbers;
            tree = givenTree;
            for (int i = 0; i < LEVELS; i++) factors[i] = new Factors();
        }

        void plant(int[] coefficients, int degree) {
            tree.fell();
            for (int k = 0; k < POWERS; k++) polynomial[k] = k < coefficients.length ? numbers.rest(coefficients[k]) : 0;
            branch(0, coefficients, 1, NONE);
            tree.degree = degree;
            tree.spell();
            tree.stands = true;
        }

        /** LEAVES and KNOTS by the FACTORS of a polynomial over RESIDUES that a level has led to. */
        private void branch(int level, int[] row, int ramification, int knot) {
            Factors found = level >= 0 && level <= DEEPEST ? factors[level] : null;
            if (found == null || !found.find(row, numbers.prime)) return;
            for (int i = 0; i < found.count && i < POWERS; i++) {
                int degree = found.degrees[i], times = found.times[i];
                if (times == 1) {
                    tree.addLeaf(DECIDED, ramification, degree, ramification * degree, knot);
                } else if (degree > 1) {
                    tree.addLeaf(HARD, 0, 0, degree * times * ramification, knot);
                } else if (level == DEEPEST) {
                    tree.addLeaf(TOO_DEEP, 0, 0, times * ramification, knot);
                } else {
                    path.root[level] = remainder(numbers.prime - found.rows[i][0], numbers.prime);
                    growKnot(level + 1, times, ramification, knot);
                }
            }
        }

        private void growKnot(int level, int manifold, int degree, int above) {
            Knot knot = level <= DEEPEST ? tree.addKnot(level, manifold, degree, above) : null;
            if (knot == null) return;
            int number = tree.knotCount - 1;
            if (level == 1) writeFirstKey(knot);
            else writeKey(knot);
            path.enterKnot(knot);
            findPoints(knot);
            findSides(knot);
            // all of them now: the HEADS are those of the next KNOT as soon as one of them branches
            for (int j = 0; j < knot.sideCount; j++) writeResidual(knot, tree.sideAt(number, j));
            if (knot.first >= 2) tree.addLeaf(LOST, 0, 0, knot.first * degree, number);
            if (knot.first == 1) tree.addLeaf(EXACT, degree, 1, degree, number);
            for (int j = 0; j < knot.sideCount; j++) {
                Side side = tree.sideAt(number, j);
                if (side == null) continue;
                path.enterSide(level, side);
                branch(level, side.residual, degree * side.ramification, number);
            }
        }

        private void writeFirstKey(Knot knot) {
            knot.key[0] = numbers.rest(-path.root[0]);
            knot.key[1] = 1;
        }

        /** q^e less c P, of the level below. */
        private void writeKey(Knot knot) {
            int below = knot.level - 1;
            if (below < 1 || below > DEEPEST) return;
            int[] monomial = path.monomial[below];
            Arrays.fill(factor, 0L);
            factor[0] = numbers.power(monomial[0]);
            for (int k = 1; k < below; k++) multiplyByKey(factor, k, monomial[k]);
            knot.key[0] = 1;
            multiplyByKey(knot.key, below, path.ramification[below]);
            for (int k = 0; k < POWERS; k++) knot.key[k] = numbers.rest(knot.key[k] - path.root[below] * factor[k]);
        }

        private void multiplyByKey(long[] row, int level, int often) {
            if (level < 1 || level > DEEPEST) return;
            for (int n = 0; n < often; n++) numbers.multiply(row, path.key[level], product);
        }

        private void findPoints(Knot knot) {
            expandParts(knot);
            for (int place = 0; place < POWERS; place++) placeValues[place] = path.valueOfPlace(place, knot.level);
            int lift = path.lift(knot.level);
            knot.first = knot.manifold;
            for (int i = Math.min(knot.manifold, POWERS - 1); i >= 0; i--) {
                int value = findHead(knot, i);
                if (value < 0) continue;
                knot.points[i] = value + i * lift;
                knot.first = i;
            }
        }

        /** The polynomial is expanded by the KNOT's KEY, and each part by the KEYS above it, down to NUMBERS. */
        private void expandParts(Knot knot) {
            Arrays.fill(parts, 0L);
            System.arraycopy(polynomial, 0, parts, 0, POWERS);
            numbers.expand(parts, 0, parts.length, knot.key, knot.degree);
            for (int k = Math.min(knot.level, DEEPEST) - 1; k >= 1; k--) {
                int size = path.degree[k + 1];
                if (size < 1) continue;
                for (int from = 0; from + size <= parts.length; from += size) {
                    numbers.expand(parts, from, size, path.key[k], path.degree[k]);
                }
            }
        }

        /** The HEAD of part i, its place and RESIDUE kept: its VALUE; -1, if the part is 0. */
        private int findHead(Knot knot, int i) {
            int least = -1;
            if (!isPower(i)) return least;
            for (int place = 0; place < knot.degree && place < POWERS; place++) {
                int at = i * knot.degree + place;
                if (at < 0 || at >= parts.length || parts[at] == 0) continue;
                int s = numbers.value(parts[at]);
                int value = s * knot.degree + placeValues[place];
                if (least >= 0 && least <= value) continue;
                least = value;
                heads[i] = place;
                residues[i] = numbers.residueBy(parts[at], s);
            }
            return least;
        }

        private void findSides(Knot knot) {
            int least = leastPoint(knot);
            if (least < 0) return;
            int many = findCorners(knot.points, knot.first, least, corners);
            for (int j = 0; j + 1 < many && j + 1 < corners.length; j++) {
                Side side = tree.addSide(knot);
                if (side == null) return;
                measureSide(knot, side, corners[j], corners[j + 1]);
                knot.index += pointsBelow(knot, side, knot.points[least]);
            }
        }

        private static int leastPoint(Knot knot) {
            int least = -1;
            for (int i = 0; i < POWERS; i++) {
                if (knot.points[i] >= 0 && (least < 0 || knot.points[i] < knot.points[least])) least = i;
            }
            return least;
        }

        private void measureSide(Knot knot, Side side, int begin, int end) {
            if (!isPower(begin) || !isPower(end)) return;
            side.begin = begin;
            side.end = end;
            side.fall = knot.points[begin] - knot.points[end];
            side.parts = greatestDivisor(end - begin, side.fall);
            side.ramification = quotient(end - begin, side.parts);
            side.slopeValue = path.lift(knot.level) * side.ramification + quotient(side.fall, side.parts);
            path.writeMonomial(side.slopeValue, knot.level, side.monomial);
        }

        private void writeResidual(Knot knot, Side side) {
            if (side == null) return;
            Arrays.fill(side.residual, 0);
            int step = quotient(side.fall, side.parts);
            for (int k = 0; k <= side.parts && k < POWERS; k++) {
                int i = side.begin + k * side.ramification;
                if (!isPower(i) || !isPower(side.begin)) continue;
                // a POINT of a SIDE's stretch lies on it or above it
                if (knot.points[i] != knot.points[side.begin] - k * step) continue;
                side.residual[k] = residueOnSide(knot, side, i, k);
            }
        }

        /** RESIDUE of the HEAD of part i times the SIDE's MONOMIAL, k times. */
        private int residueOnSide(Knot knot, Side side, int i, int k) {
            exponents[0] = 0;
            for (int t = 1; t < LEVELS; t++) {
                exponents[t] = t < knot.level ? path.exponent(heads[i], t) + k * side.monomial[t] : 0;
            }
            return remainder(residues[i] * path.reduce(exponents, knot.level, numbers.prime), numbers.prime);
        }

        /** What a SIDE, without its end, has for the INDEX. */
        private static int pointsBelow(Knot knot, Side side, int bottom) {
            if (!isPower(side.begin) || side.end <= side.begin) return 0;
            int sum = 0;
            for (int i = Math.max(1, side.begin); i < side.end; i++) {
                // rounded up, as the fall is taken off: the border is rounded down
                int width = side.end - side.begin;
                int fallen = quotient(side.fall * (i - side.begin) + width - 1, width);
                sum += knot.points[side.begin] - fallen - bottom;
            }
            return sum;
        }
    }
}
