import java.math.BigInteger;
import java.util.ArrayList;
import java.util.Arrays;
import java.util.List;
import java.util.TreeMap;
import java.util.regex.Matcher;
import java.util.regex.Pattern;

/**
 * The document once more, word by word and as slowly as it reads, on fractions, big numbers and
 * lists: what the class is compared with. It shares no way of reckoning with the class.
 */
final class Model {
    static final int BAD = -1, NONE = -2, NOT = -3, FULL = -4, DEEP = -6, NOTHING = -11, OUTSIDE = -12, SORT = -13, SIZE = -14, BY_NOUGHT = -15;
    static final long NO = Long.MIN_VALUE;

    /** A fraction; the lower part is above 0. */
    record Fraction(long up, long down) implements Comparable<Fraction> {
        static Fraction of(long up, long down) {
            long g = BigInteger.valueOf(up).gcd(BigInteger.valueOf(down)).longValue();
            if (g == 0) g = 1;
            if (down < 0) g = -g;
            return new Fraction(up / g, down / g);
        }
        Fraction plus(Fraction o) { return of(up * o.down + o.up * down, down * o.down); }
        Fraction minus(Fraction o) { return of(up * o.down - o.up * down, down * o.down); }
        Fraction times(long n) { return of(up * n, down); }
        Fraction by(long n) { return of(up, down * n); }
        boolean whole() { return down == 1; }
        public int compareTo(Fraction o) { return Long.compare(up * o.down, o.up * down); }
    }

    /** p^s q_1^(t_1) .. with a RESIDUE; t[0] is t_1. */
    static final class Product {
        long s;
        final long[] t;
        long residue = 1;
        Product(int levels) { t = new long[levels]; }
    }

    /** One level of the way to a knot. */
    static final class Step {
        List<BigInteger> key;
        int e;
        Fraction l;
        Product monomial;
        int root;
        Step copy() {
            Step s = new Step();
            s.key = key; s.e = e; s.l = l; s.monomial = monomial; s.root = root;
            return s;
        }
    }

    static final class SideM {
        int begin, end, fall, e, g;
        Fraction l;
        Product monomial;
        int[] residual;
        int scaled;
    }

    static final class KnotM {
        int level, m, above, z, index, E;
        List<BigInteger> key;
        final TreeMap<Integer, Integer> points = new TreeMap<>();
        final List<SideM> sides = new ArrayList<>();
    }

    static final class LeafM {
        int kind, e, f, degree, knot;
    }

    static final class FactorM {
        List<Integer> row;
        int times;
        int degree() { return row.size() - 1; }
    }

    int p = 3;
    final StringBuilder tape = new StringBuilder();
    final int[][] slots = new int[5][9];
    List<KnotM> knots;
    List<LeafM> leaves;
    int treeDegree;
    List<BigInteger> grown;
    final int[] sorts = {-1, -1, -1, -1};
    final int[][] rows = new int[4][];

    int limit() { return p == 2 ? 28 : p == 3 ? 18 : p == 5 ? 12 : 10; }
    BigInteger modulus() { return BigInteger.valueOf(p).pow(limit()); }

    static boolean slot(int s) { return s >= 0 && s <= 4; }
    static boolean power(int k) { return k >= 0 && k <= 8; }
    static boolean small(long v) { return v >= -9999 && v <= 9999; }
    int degree(int s) { for (int k = 8; k >= 0; k--) if (slots[s][k] != 0) return k; return -1; }
    boolean monic(int s) { return degree(s) >= 1 && slots[s][degree(s)] == 1; }
    int degreeTold(int s) { return degree(s) < 0 ? -10 : degree(s); }

    int prime(int q) {
        if (q != 2 && q != 3 && q != 5 && q != 7) return BAD;
        int was = p;
        p = q;
        knots = null;
        leaves = null;
        return was;
    }

    int feed(int letter) {
        if (letter < 0 || letter > 127) return BAD;
        if (tape.length() == 80) return FULL;
        tape.append((char) letter);
        return tape.length();
    }

    int wipe() {
        int n = tape.length();
        tape.setLength(0);
        return n;
    }

    static final Pattern TERM = Pattern.compile("([+-]?)(?:([0-9]{1,4})(?:\\*(x)(?:\\^([0-8]))?)?|(x)(?:\\^([0-8]))?)");
    static final String T = "(?:[0-9]{1,4}(?:\\*x(?:\\^[0-8])?)?|x(?:\\^[0-8])?)";
    static final Pattern TEXT = Pattern.compile("-?" + T + "(?:[+-]" + T + ")*");

    int text(int s) {
        if (!slot(s)) return BAD;
        String t = tape.toString();
        tape.setLength(0);
        if (!TEXT.matcher(t).matches()) {
            for (int n = 1; n <= t.length(); n++) {
                Matcher m = TEXT.matcher(t.substring(0, n));
                if (!m.matches() && !m.hitEnd()) return -100 - (n - 1);
            }
            return -100 - t.length();
        }
        long[] sum = new long[9];
        Matcher m = TERM.matcher(t);
        while (m.find()) {
            long c = m.group(2) == null ? 1 : Long.parseLong(m.group(2));
            if ("-".equals(m.group(1))) c = -c;
            boolean x = m.group(3) != null || m.group(5) != null;
            String k = m.group(4) != null ? m.group(4) : m.group(6);
            sum[!x ? 0 : k == null ? 1 : Integer.parseInt(k)] += c;
        }
        for (long v : sum) if (!small(v)) return NOT;
        for (int k = 0; k < 9; k++) slots[s][k] = (int) sum[k];
        return degreeTold(s);
    }

    long set(int s, int k, int v) {
        if (!slot(s) || !power(k) || !small(v)) return NO;
        long was = slots[s][k];
        slots[s][k] = v;
        return was;
    }

    long at(int s, int k) { return slot(s) && power(k) ? slots[s][k] : NO; }

    int told(int s, int what) {
        if (!slot(s) || what < 0 || what > 1) return BAD;
        return what == 0 ? degreeTold(s) : monic(s) ? 1 : 0;
    }

    int put(int to, BigInteger[] row) {
        for (BigInteger v : row) if (v.abs().compareTo(BigInteger.valueOf(9999)) > 0) return NOT;
        for (int k = 0; k < 9; k++) slots[to][k] = row[k].intValue();
        return 1;
    }

    int mix(int one, int a, int other, int b, int to) {
        if (!slot(one) || !slot(other) || !slot(to)) return BAD;
        BigInteger[] row = new BigInteger[9];
        for (int k = 0; k < 9; k++) {
            row[k] = BigInteger.valueOf(a).multiply(BigInteger.valueOf(slots[one][k]))
                .add(BigInteger.valueOf(b).multiply(BigInteger.valueOf(slots[other][k])));
        }
        return put(to, row);
    }

    int times(int one, int other, int to) {
        if (!slot(one) || !slot(other) || !slot(to)) return BAD;
        BigInteger[] row = new BigInteger[17];
        Arrays.fill(row, BigInteger.ZERO);
        for (int i = 0; i < 9; i++) for (int j = 0; j < 9; j++) {
            row[i + j] = row[i + j].add(BigInteger.valueOf((long) slots[one][i] * slots[other][j]));
        }
        for (int k = 9; k < 17; k++) if (row[k].signum() != 0) return DEEP;
        return put(to, row.length > 9 ? Arrays.copyOf(row, 9) : row);
    }

    long worth(int s, int x) {
        if (!slot(s)) return NO;
        BigInteger h = BigInteger.ZERO;
        for (int k = 8; k >= 0; k--) {
            h = h.multiply(BigInteger.valueOf(x));
            if (h.bitLength() > 63) return NO;
            h = h.add(BigInteger.valueOf(slots[s][k]));
            if (h.bitLength() > 63) return NO;
        }
        return h.longValue();
    }

    // polynomials in NUMBERS: lists without zeros in front

    List<BigInteger> poly(int[] row) {
        List<BigInteger> r = new ArrayList<>();
        for (int v : row) r.add(BigInteger.valueOf(v));
        return tidy(r);
    }

    List<BigInteger> tidy(List<BigInteger> r) {
        List<BigInteger> out = new ArrayList<>();
        for (BigInteger v : r) out.add(v.mod(modulus()));
        while (!out.isEmpty() && out.get(out.size() - 1).signum() == 0) out.remove(out.size() - 1);
        return out;
    }

    List<BigInteger> product(List<BigInteger> a, List<BigInteger> b) {
        List<BigInteger> out = new ArrayList<>();
        for (int i = 0; i < a.size() + b.size(); i++) out.add(BigInteger.ZERO);
        for (int i = 0; i < a.size(); i++) for (int j = 0; j < b.size(); j++) {
            out.set(i + j, out.get(i + j).add(a.get(i).multiply(b.get(j))));
        }
        return tidy(out);
    }

    List<BigInteger> less(List<BigInteger> a, List<BigInteger> b) {
        List<BigInteger> out = new ArrayList<>();
        for (int i = 0; i < Math.max(a.size(), b.size()); i++) {
            BigInteger u = i < a.size() ? a.get(i) : BigInteger.ZERO, v = i < b.size() ? b.get(i) : BigInteger.ZERO;
            out.add(u.subtract(v));
        }
        return tidy(out);
    }

    /** Quotient and remainder by a monic polynomial. */
    List<List<BigInteger>> divide(List<BigInteger> a, List<BigInteger> g) {
        List<BigInteger> left = a, quotient = new ArrayList<>();
        while (left.size() >= g.size()) {
            int shift = left.size() - g.size();
            List<BigInteger> mono = new ArrayList<>();
            for (int i = 0; i < shift; i++) mono.add(BigInteger.ZERO);
            mono.add(left.get(left.size() - 1));
            left = less(left, product(mono, g));
            quotient = less(quotient, product(mono, List.of(BigInteger.valueOf(-1))));
        }
        return List.of(quotient, left);
    }

    List<List<BigInteger>> expand(List<BigInteger> f, List<BigInteger> g) {
        List<List<BigInteger>> parts = new ArrayList<>();
        List<BigInteger> left = f;
        while (!left.isEmpty()) {
            List<List<BigInteger>> d = divide(left, g);
            parts.add(d.get(1));
            left = d.get(0);
        }
        return parts;
    }

    static BigInteger in(List<BigInteger> a, int k) { return k < a.size() ? a.get(k) : BigInteger.ZERO; }

    long expansion(int s, int by, int i, int k) {
        if (!slot(s) || !slot(by) || !power(i) || !power(k) || !monic(by)) return NO;
        List<List<BigInteger>> parts = expand(poly(slots[s]), poly(slots[by]));
        return i < parts.size() ? in(parts.get(i), k).longValue() : 0;
    }

    // polynomials over RESIDUES

    static int mod(long a, int p) { return (int) Math.floorMod(a, (long) p); }

    List<Integer> residues(int[] row) {
        List<Integer> out = new ArrayList<>();
        for (int v : row) out.add(mod(v, p));
        while (!out.isEmpty() && out.get(out.size() - 1) == 0) out.remove(out.size() - 1);
        return out;
    }

    /** The quotient, or null, if something remains. The divisor has 1 in front. */
    List<Integer> exact(List<Integer> a, List<Integer> by) {
        int[] left = new int[a.size()];
        for (int i = 0; i < left.length; i++) left[i] = a.get(i);
        int d = by.size() - 1;
        Integer[] quotient = new Integer[Math.max(0, a.size() - d)];
        for (int i = a.size() - 1; i >= d; i--) {
            int c = left[i];
            quotient[i - d] = c;
            for (int j = 0; j <= d; j++) left[i - d + j] = mod(left[i - d + j] - c * by.get(j), p);
        }
        for (int v : left) if (v != 0) return null;
        return Arrays.asList(quotient);
    }

    List<FactorM> factors(int[] row) {
        List<Integer> left = residues(row);
        if (left.isEmpty()) return null;
        int inverse = 1;
        while (mod(inverse * left.get(left.size() - 1), p) != 1) inverse++;
        for (int i = 0; i < left.size(); i++) left.set(i, mod(left.get(i) * inverse, p));
        List<FactorM> out = new ArrayList<>();
        for (int d = 1; 2 * d <= left.size() - 1; d++) {
            int many = (int) Math.pow(p, d);
            for (int number = many; number < 2 * many; number++) {
                List<Integer> g = new ArrayList<>();
                for (int i = 0, n = number; i <= d; i++, n /= p) g.add(i == d ? 1 : n % p);
                FactorM f = new FactorM();
                f.row = g;
                for (List<Integer> q = exact(left, g); left.size() > d && q != null; q = exact(left, g)) {
                    left = q;
                    f.times++;
                    if (left.size() <= d) break;
                }
                if (f.times > 0) out.add(f);
            }
        }
        if (left.size() > 1) {
            FactorM f = new FactorM();
            f.row = left;
            f.times = 1;
            out.add(f);
        }
        return out;
    }

    long factor(int s, int i, int what) {
        if (!slot(s) || what < -3 || what > 8) return NO;
        List<FactorM> f = factors(slots[s]);
        if (f == null) return NO;
        if (what == -1) return f.size();
        if (i < 0 || i >= f.size()) return NO;
        if (what == -2) return f.get(i).times;
        if (what == -3) return f.get(i).degree();
        return what < f.get(i).row.size() ? f.get(i).row.get(what) : 0;
    }

    // the tree

    int grow(int s) {
        if (!slot(s)) return BAD;
        if (!monic(s)) return NOT;
        knots = new ArrayList<>();
        leaves = new ArrayList<>();
        treeDegree = degree(s);
        grown = poly(slots[s]);
        for (FactorM f : factors(slots[s])) {
            if (f.times == 1) leaf(0, 1, f.degree(), f.degree(), NONE);
            else if (f.degree() == 1) {
                int r = mod(-f.row.get(0), p);
                knot(new ArrayList<>(), tidy(List.of(BigInteger.valueOf(-r), BigInteger.ONE)), f.times, NONE);
            } else leaf(2, 0, 0, f.degree() * f.times, NONE);
        }
        return leaves.size();
    }

    void leaf(int kind, int e, int f, int degree, int knot) {
        LeafM l = new LeafM();
        l.kind = kind; l.e = e; l.f = f; l.degree = degree; l.knot = knot;
        leaves.add(l);
    }

    Fraction value(Product m, List<Step> steps) {
        Fraction v = Fraction.of(m.s, 1);
        for (int k = 0; k < steps.size(); k++) v = v.plus(steps.get(k).l.times(m.t[k]));
        return v;
    }

    int valueOf(BigInteger number) {
        int s = 0;
        while (number.mod(BigInteger.valueOf(p)).signum() == 0) { number = number.divide(BigInteger.valueOf(p)); s++; }
        return s;
    }

    /** All MONOMIALS of a polynomial, each with the RESIDUE of its NUMBER. */
    void sum(List<BigInteger> a, List<Step> steps, int levels, long[] t, List<Product> into) {
        if (levels == 0) {
            if (a.size() > 1) throw new IllegalStateException("not a number");
            if (a.isEmpty()) return;
            Product m = new Product(steps.size());
            m.s = valueOf(a.get(0));
            System.arraycopy(t, 0, m.t, 0, t.length);
            m.residue = a.get(0).divide(BigInteger.valueOf(p).pow((int) m.s)).mod(BigInteger.valueOf(p)).longValue();
            into.add(m);
            return;
        }
        List<List<BigInteger>> parts = expand(a, steps.get(levels - 1).key);
        if (parts.size() > steps.get(levels - 1).e) throw new IllegalStateException("too many parts");
        for (int j = 0; j < parts.size(); j++) {
            t[levels - 1] = j;
            sum(parts.get(j), steps, levels - 1, t, into);
        }
        t[levels - 1] = 0;
    }

    Product head(List<BigInteger> a, List<Step> steps) {
        List<Product> all = new ArrayList<>();
        sum(a, steps, steps.size(), new long[steps.size()], all);
        Product best = null;
        for (Product m : all) {
            if (best != null && value(m, steps).compareTo(value(best, steps)) == 0) throw new IllegalStateException("alike");
            if (best == null || value(m, steps).compareTo(value(best, steps)) < 0) best = m;
        }
        return best;
    }

    Product multiplied(Product a, Product b, List<Step> steps) {
        Product m = new Product(steps.size());
        m.s = a.s + b.s;
        for (int k = 0; k < steps.size(); k++) m.t[k] = a.t[k] + (k < b.t.length ? b.t[k] : 0);
        m.residue = a.residue * b.residue % p;
        for (int k = steps.size() - 1; k >= 0; k--) {
            while (m.t[k] >= steps.get(k).e) {
                m.t[k] -= steps.get(k).e;
                Product more = steps.get(k).monomial;
                m.s += more.s;
                for (int j = 0; j < more.t.length; j++) m.t[j] += more.t[j];
                m.residue = m.residue * steps.get(k).root % p;
            }
        }
        return m;
    }

    /** The one MONOMIAL of a VALUE. */
    Product monomialOf(Fraction v, List<Step> steps) {
        List<Product> found = new ArrayList<>();
        search(v, steps, 0, new Product(steps.size()), found);
        if (found.size() != 1) throw new IllegalStateException("monomials: " + found.size());
        return found.get(0);
    }

    void search(Fraction v, List<Step> steps, int k, Product m, List<Product> found) {
        if (k == steps.size()) {
            m.s = 0;
            Fraction left = v.minus(value(m, steps));
            if (!left.whole()) return;
            Product n = new Product(steps.size());
            n.s = left.up();
            if (n.s < 0) throw new IllegalStateException("s below 0");
            System.arraycopy(m.t, 0, n.t, 0, n.t.length);
            found.add(n);
            return;
        }
        for (int t = 0; t < steps.get(k).e; t++) {
            m.t[k] = t;
            search(v, steps, k + 1, m, found);
        }
        m.t[k] = 0;
    }

    void knot(List<Step> steps, List<BigInteger> key, int m, int above) {
        KnotM knot = new KnotM();
        int number = knots.size(), r = steps.size() + 1, E = 1;
        knots.add(knot);
        for (Step s : steps) E *= s.e;
        if (key.size() - 1 != E) throw new IllegalStateException("degree of a key");
        knot.level = r; knot.m = m; knot.above = above; knot.key = key; knot.E = E;
        Fraction b = r == 1 ? Fraction.of(0, 1) : steps.get(r - 2).l.times(steps.get(r - 2).e);
        List<List<BigInteger>> parts = expand(grown, key);
        Product[] heads = new Product[m + 1];
        for (int i = 0; i <= m; i++) {
            if (i >= parts.size() || parts.get(i).isEmpty()) continue;
            heads[i] = head(parts.get(i), steps);
            Fraction w = value(heads[i], steps).plus(b.times(i)).times(E);
            if (!w.whole()) throw new IllegalStateException("w is not whole");
            knot.points.put(i, (int) w.up());
        }
        knot.z = knot.points.isEmpty() ? m : knot.points.firstKey();
        if (knot.z >= 2) leaf(4, 0, 0, knot.z * E, number);
        else if (knot.z == 1) leaf(1, E, 1, E, number);
        if (knot.points.isEmpty()) return;
        List<Integer> corners = corners(knot.points);
        knot.index = below(knot.points, corners);
        for (int j = 0; j + 1 < corners.size(); j++) knot.sides.add(side(knot, steps, heads, b, corners.get(j), corners.get(j + 1)));
        for (SideM side : knot.sides) branch(side, steps, key, number, E);
    }

    SideM side(KnotM knot, List<Step> steps, Product[] heads, Fraction b, int begin, int end) {
        SideM s = new SideM();
        s.begin = begin;
        s.end = end;
        s.fall = knot.points.get(begin) - knot.points.get(end);
        int length = end - begin;
        s.g = BigInteger.valueOf(length).gcd(BigInteger.valueOf(s.fall)).intValue();
        s.e = length / s.g;
        s.l = b.plus(Fraction.of(s.fall, (long) length * knot.E));
        Fraction scaled = s.l.times((long) knot.E * s.e);
        if (!scaled.whole()) throw new IllegalStateException("slope value");
        s.scaled = (int) scaled.up();
        s.monomial = monomialOf(s.l.times(s.e), steps);
        s.residual = new int[9];
        for (int k = 0; k <= s.g; k++) {
            int i = begin + k * s.e;
            Integer w = knot.points.get(i);
            // above the line: w - w_begin > - fall (i - begin) / length
            if (w == null || (long) (w - knot.points.get(begin)) * length > -(long) s.fall * (i - begin)) continue;
            Product product = heads[i];
            for (int n = 0; n < k; n++) product = multiplied(product, s.monomial, steps);
            s.residual[k] = (int) product.residue;
        }
        return s;
    }

    void branch(SideM side, List<Step> steps, List<BigInteger> key, int number, int E) {
        int r = steps.size() + 1;
        for (FactorM f : factors(side.residual)) {
            if (f.times == 1) leaf(0, E * side.e, f.degree(), E * side.e * f.degree(), number);
            else if (f.degree() > 1) leaf(2, 0, 0, f.degree() * f.times * E * side.e, number);
            else if (r == 6) leaf(3, 0, 0, f.times * E * side.e, number);
            else {
                int c = mod(-f.row.get(0), p);
                Step step = new Step();
                step.key = key; step.e = side.e; step.l = side.l; step.monomial = side.monomial; step.root = c;
                List<BigInteger> power = List.of(BigInteger.ONE);
                for (int n = 0; n < side.e; n++) power = product(power, key);
                List<BigInteger> mono = tidy(List.of(BigInteger.valueOf(p).pow((int) side.monomial.s).multiply(BigInteger.valueOf(c))));
                for (int k = 0; k < steps.size(); k++) {
                    for (int n = 0; n < side.monomial.t[k]; n++) mono = product(mono, steps.get(k).key);
                }
                List<Step> more = new ArrayList<>();
                for (Step s : steps) more.add(s.copy());
                more.add(step);
                knot(more, less(power, mono), f.times, number);
            }
        }
    }

    /** Of the lower border, from the first point to the first one of the least. */
    static List<Integer> corners(TreeMap<Integer, Integer> points) {
        int first = points.firstKey(), last = first;
        for (int i : points.keySet()) if (points.get(i) < points.get(last)) last = i;
        return corners(points, first, last);
    }

    static List<Integer> corners(TreeMap<Integer, Integer> points, int first, int last) {
        List<Integer> out = new ArrayList<>();
        for (int q : points.keySet()) {
            if (q < first || q > last) continue;
            boolean corner = true;
            for (int a : points.keySet()) for (int b : points.keySet()) {
                if (a >= q || b <= q || q == first || q == last) continue;
                // on the line from a to b, or above it
                BigInteger here = BigInteger.valueOf(points.get(q)).subtract(BigInteger.valueOf(points.get(a))).multiply(BigInteger.valueOf(b - a));
                BigInteger there = BigInteger.valueOf(points.get(b)).subtract(BigInteger.valueOf(points.get(a))).multiply(BigInteger.valueOf(q - a));
                if (here.compareTo(there) >= 0) corner = false;
            }
            if (corner) out.add(q);
        }
        return out;
    }

    static int below(TreeMap<Integer, Integer> points, List<Integer> corners) {
        int last = corners.get(corners.size() - 1), many = 0;
        for (int i = 1; i < last; i++) {
            for (int j = 0; j + 1 < corners.size(); j++) {
                int a = corners.get(j), b = corners.get(j + 1);
                if (i < a || i >= b) continue;
                for (int y = points.get(last) + 1; (long) (y - points.get(a)) * (b - a) <= (long) (points.get(b) - points.get(a)) * (i - a); y++) many++;
            }
        }
        return many;
    }

    String spelled() {
        StringBuilder b = new StringBuilder();
        for (LeafM l : leaves) {
            if (b.length() > 0) b.append('+');
            if (l.kind == 0) b.append(l.e + "." + l.f);
            if (l.kind == 1) b.append(l.e + "." + l.f + "!");
            if (l.kind == 2) b.append("?" + l.degree);
            if (l.kind == 3) b.append("??" + l.degree);
            if (l.kind == 4) b.append("???" + l.degree);
        }
        return b.toString();
    }

    int tree(int what) {
        if (what < 0 || what > 7) return BAD;
        if (knots == null) return NONE;
        switch (what) {
            case 0: return knots.size();
            case 1: return leaves.size();
            case 2: return knots.stream().mapToInt(k -> k.index).sum();
            case 3: return leaves.stream().filter(l -> l.kind >= 2).mapToInt(l -> l.degree).sum();
            case 4: return leaves.stream().filter(l -> l.kind < 2).mapToInt(l -> l.e).max().orElse(0);
            case 5: return knots.stream().mapToInt(k -> k.level).max().orElse(0);
            case 6: return spelled().length();
            default: return treeDegree;
        }
    }

    KnotM knotAt(int i) { return knots != null && i >= 0 && i < knots.size() ? knots.get(i) : null; }

    SideM sideAt(int i, int j) {
        KnotM k = knotAt(i);
        return k != null && j >= 0 && j < k.sides.size() ? k.sides.get(j) : null;
    }

    int knot(int i, int what) {
        if (what < 0 || what > 6) return BAD;
        KnotM k = knotAt(i);
        if (k == null) return NONE;
        return new int[] {k.level, k.m, k.key.size() - 1, k.sides.size(), k.index, k.above, k.z}[what];
    }

    long key(int i, int k) { return knotAt(i) == null || !power(k) ? NO : in(knotAt(i).key, k).longValue(); }

    int point(int i, int k) {
        if (!power(k)) return BAD;
        return knotAt(i) == null ? NONE : knotAt(i).points.getOrDefault(k, NONE);
    }

    int side(int i, int j, int what) {
        if (what < 0 || what > 5) return BAD;
        SideM s = sideAt(i, j);
        return s == null ? NONE : new int[] {s.begin, s.end, s.fall, s.e, s.g, s.scaled}[what];
    }

    int residual(int i, int j, int k) {
        if (!power(k)) return BAD;
        return sideAt(i, j) == null ? NONE : sideAt(i, j).residual[k];
    }

    int monomial(int i, int j, int what) {
        if (what < 0 || what > 6) return BAD;
        SideM s = sideAt(i, j);
        if (s == null) return NONE;
        if (what == 0) return (int) s.monomial.s;
        return what <= s.monomial.t.length ? (int) s.monomial.t[what - 1] : 0;
    }

    int leaf(int i, int what) {
        if (what < 0 || what > 4) return BAD;
        if (leaves == null || i < 0 || i >= leaves.size()) return NONE;
        LeafM l = leaves.get(i);
        return new int[] {l.kind, l.e, l.f, l.degree, l.knot}[what];
    }

    int spelling(int i) { return knots == null || i < 0 || i >= spelled().length() ? NONE : spelled().charAt(i); }

    int ask() {
        String word = tape.toString();
        tape.setLength(0);
        if (word.equals("prime")) return p;
        int what = List.of("knots", "leaves", "index", "open", "wild", "levels", "size", "degree").indexOf(word);
        return what < 0 ? NOT : tree(what);
    }

    // sheets

    static boolean isSheet(int s) { return s >= 0 && s <= 3; }

    int corner(int s, int i) {
        if (!isSheet(s)) return BAD;
        if (sorts[s] < 0) return NOTHING;
        TreeMap<Integer, Integer> points = new TreeMap<>();
        for (int k = 0; k < rows[s].length; k++) if (rows[s][k] >= 0) points.put(k, rows[s][k]);
        if (points.isEmpty()) return NONE;
        List<Integer> c = corners(points, points.firstKey(), points.lastKey());
        return i < 0 || i >= c.size() ? NONE : c.get(i);
    }

    int whyNot(int s, int i, int j) {
        if (!isSheet(s)) return BAD;
        if (sorts[s] < 0) return NOTHING;
        if (i < 0 || j < 0 || i >= rows[s].length || j >= rows[s].length) return OUTSIDE;
        return i == j ? BY_NOUGHT : 0;
    }

    long slope(int s, int i, int j, int what) {
        if (what < 0 || what > 1 || whyNot(s, i, j) != 0) return NO;
        BigInteger[] d = BigInteger.valueOf(rows[s][i]).subtract(BigInteger.valueOf(rows[s][j])).divideAndRemainder(BigInteger.valueOf(j - i));
        return d[what].longValue();
    }

    static int kept(int sort, int v) { return sort == 0 ? (byte) v : v; }

    int spill(int i, int s, int from) {
        if (!isSheet(s)) return BAD;
        if (knotAt(i) == null) return NONE;
        if (sorts[s] < 0) return NOTHING;
        if (from < 0 || from > rows[s].length) return OUTSIDE;
        int n = 0;
        for (; n < 9 && from + n < rows[s].length; n++) rows[s][from + n] = kept(sorts[s], knotAt(i).points.getOrDefault(n, -1));
        return n;
    }

    int sheet(int s, int sort, int n) {
        if (!isSheet(s) || sort < -1 || sort > 1) return BAD;
        if (sort != -1 && n > 40) return BAD;
        if (sort != -1 && n < 0) return SIZE;
        sorts[s] = sort;
        rows[s] = sort == -1 ? null : new int[n];
        return 1;
    }

    int cell(int s, int i, int v) {
        if (!isSheet(s)) return BAD;
        if (sorts[s] < 0) return NOTHING;
        if (i < 0 || i >= rows[s].length) return OUTSIDE;
        rows[s][i] = kept(sorts[s], v);
        return 1;
    }

    long item(int s, int i) { return !isSheet(s) || sorts[s] < 0 || i < 0 || i >= rows[s].length ? NO : rows[s][i]; }

    int shift(int s, int i, int o, int j, int n) {
        if (!isSheet(s) || !isSheet(o)) return BAD;
        if (sorts[s] < 0 || sorts[o] < 0) return NOTHING;
        if (sorts[s] != sorts[o]) return SORT;
        if (n < 0 || i < 0 || j < 0 || (long) i + n > rows[s].length || (long) j + n > rows[o].length) return OUTSIDE;
        int[] was = rows[s].clone();
        for (int k = 0; k < n; k++) rows[o][j + k] = was[i + k];
        return n;
    }

    int count(int what) {
        switch (what) {
            case 0: return p;
            case 1: return limit();
            case 2: return tape.length();
            case 3: { int set = 0; for (int s = 0; s < 5; s++) if (degree(s) >= 0) set += 1 << s; return set; }
            case 4: { int n = 0; for (int s : sorts) if (s >= 0) n++; return n; }
            case 5: return knots == null ? 0 : 1;
            default: return BAD;
        }
    }
}
