import java.util.Arrays;
import java.util.Random;
import java.util.TreeMap;

/** Long runs of calls, the same for the class and for the model, and many trees, told whole. The seeds are fixed. */
public final class ModelTest {
    private static int wrong = 0;
    private static final StringBuilder log = new StringBuilder();
    private static final TreeMap<String, Integer> met = new TreeMap<>();

    private static void same(String call, long got, long want) {
        if (got == want) return;
        wrong++;
        if (wrong <= 20) System.out.println(log + call + " answered " + got + ", due is " + want);
    }

    private static void met(String what) {
        met.merge(what, 1, Integer::sum);
    }

    public static void main(String[] args) {
        int trees = args.length > 0 ? Integer.parseInt(args[0]) : 6000;
        int runs = args.length > 1 ? Integer.parseInt(args[1]) : 300;
        long seed = args.length > 2 ? Long.parseLong(args[2]) : 1;
        compareTrees(new Random(seed), trees);
        for (int i = 0; i < runs; i++) compareRun(new Random(seed * 1000003 + i));
        if (args.length > 0) System.out.println(met);
        requireMet("kind 0", "kind 1", "kind 2", "kind 3", "kind 4", "level 0", "level 1", "level 2", "level 3", "level 4", "level 5", "level 6",
            "sides 0", "sides 1", "sides 2", "sides 3", "E 1", "E 2", "E 3", "E 4");
        System.out.println(wrong == 0 ? "as the model" : wrong + " answers are not the model's");
        if (wrong != 0) System.exit(1);
    }

    private static void requireMet(String... all) {
        for (String one : all) {
            if (met.containsKey(one)) continue;
            wrong++;
            System.out.println("never met: " + one);
        }
    }

    // ---- trees

    private static void compareTrees(Random random, int many) {
        TypesAtPrime x = new TypesAtPrime();
        int calls = 0;
        for (int n = 0; n < many; n++) {
            int p = new int[] {2, 2, 2, 3, 3, 5, 7}[random.nextInt(7)];
            int[] f = Shapes.polynomial(random, p);
            Model m = new Model();
            // an object is good for 512 calls; what is left over from earlier trees must not be seen
            if (calls > 0 && random.nextInt(3) == 0) { x = new TypesAtPrime(); calls = 0; }
            calls++;
            log.setLength(0);
            log.append("p " + p + ", f " + Arrays.toString(f) + ": ");
            x.prime(p);
            m.prime(p);
            for (int k = 0; k < 9; k++) { x.set(0, k, f[k]); m.set(0, k, f[k]); }
            same("grow", x.grow(0), m.grow(0));
            compareTree(x, m);
        }
    }

    private static void compareTree(TypesAtPrime x, Model m) {
        for (int w = -1; w <= 8; w++) same("tree " + w, x.tree(w), m.tree(w));
        met("level " + m.tree(5));
        for (int i = -1; i <= m.knots.size(); i++) {
            for (int w = -1; w <= 7; w++) same("knot " + i + " " + w, x.knot(i, w), m.knot(i, w));
            for (int k = -1; k <= 9; k++) same("key " + i + " " + k, x.key(i, k), m.key(i, k));
            for (int k = -1; k <= 9; k++) same("point " + i + " " + k, x.point(i, k), m.point(i, k));
            if (m.knotAt(i) != null) { met("sides " + m.knot(i, 3)); met("E " + m.knot(i, 2)); }
            for (int j = -1; j <= Math.max(0, m.knot(i, 3)); j++) {
                for (int w = -1; w <= 6; w++) same("side " + i + " " + j + " " + w, x.side(i, j, w), m.side(i, j, w));
                for (int k = -1; k <= 9; k++) same("residual " + i + " " + j + " " + k, x.residual(i, j, k), m.residual(i, j, k));
                for (int w = -1; w <= 7; w++) same("monomial " + i + " " + j + " " + w, x.monomial(i, j, w), m.monomial(i, j, w));
            }
        }
        for (int i = -1; i <= m.leaves.size(); i++) {
            for (int w = -1; w <= 5; w++) same("leaf " + i + " " + w, x.leaf(i, w), m.leaf(i, w));
            if (i >= 0 && i < m.leaves.size()) met("kind " + m.leaf(i, 0));
        }
        for (int i = -1; i <= m.spelled().length(); i++) same("spelling " + i, x.spelling(i), m.spelling(i));
    }

    // ---- runs of all calls

    private static final String[] SNIPS = {"x", "x^2", "3", "-", "+", "*", "^", "12*x^3", "9999", "x^8+", "x^4-2", "0", "knots", "leaves", "index",
        "open", "wild", "levels", "size", "degree", "prime", "x^6-27", "+16", "2*x"};

    private static int near(Random random, int from, int to) {
        switch (random.nextInt(24)) {
            case 0: return new int[] {Integer.MIN_VALUE, Integer.MAX_VALUE, -1, 41, 10000, -10000, 80}[random.nextInt(7)];
            case 1: return from - 1;
            case 2: return to + 1;
            default: return from + random.nextInt(to - from + 1);
        }
    }

    private static void compareRun(Random r) {
        TypesAtPrime x = new TypesAtPrime();
        Model m = new Model();
        log.setLength(0);
        for (int calls = 0; calls < 500; calls++) {
            int was = wrong;
            if (r.nextInt(12) == 0) calls += write(r, x, m);
            else if (r.nextInt(30) == 0) calls += fill(r, x, m);
            else step(r, x, m);
            if (wrong != was) return;
        }
    }

    private static int write(Random r, TypesAtPrime x, Model m) {
        String s = SNIPS[r.nextInt(SNIPS.length)];
        for (int i = 0; i < s.length(); i++) same("feed", x.feed(s.charAt(i)), m.feed(s.charAt(i)));
        return s.length();
    }

    private static int fill(Random r, TypesAtPrime x, Model m) {
        int slot = r.nextInt(5);
        int[] f = Shapes.polynomial(r, m.p);
        for (int k = 0; k < 9; k++) same("set", x.set(slot, k, f[k]), m.set(slot, k, f[k]));
        return 9;
    }

    private static int any(Random r) {
        return r.nextInt(3) == 0 ? r.nextInt() : r.nextInt(60) - 20;
    }

    private static void step(Random r, TypesAtPrime x, Model m) {
        int a = near(r, 0, 4), b = near(r, 0, 4), c = near(r, 0, 4), k = near(r, 0, 8), i = near(r, 0, 3), j = near(r, 0, 2);
        int s = near(r, 0, 3), o = near(r, 0, 3), n = near(r, 0, 12), w = near(r, 0, 7), q = near(r, 0, 12);
        int call = r.nextInt(46);
        String text = call + " (" + a + " " + b + " " + c + " k " + k + " i " + i + " j " + j + " s " + s + " o " + o + " n " + n + " w " + w + " q " + q + ")";
        switch (call) {
            case 0: { int p = r.nextInt(12) == 0 ? near(r, 0, 8) : m.p; if (r.nextInt(4) == 0) same(text, x.prime(p), m.prime(p)); break; }
            case 1: { int l = near(r, 0, 127); same(text, x.feed(l), m.feed(l)); break; }
            case 2: if (r.nextInt(3) == 0) same(text, x.wipe(), m.wipe()); break;
            case 3: same(text, x.text(a), m.text(a)); break;
            case 4: { int v = near(r, -9999, 9999); if (r.nextBoolean()) v = r.nextInt(9) - 4; same(text, x.set(a, k, v), m.set(a, k, v)); break; }
            case 5: same(text, x.at(a, k), m.at(a, k)); break;
            case 6: { int v = near(r, 0, 1); same(text, x.told(a, v), m.told(a, v)); break; }
            case 7: { int u = any(r), v = r.nextInt(5) - 2; same(text, x.mix(a, u, b, v, c), m.mix(a, u, b, v, c)); break; }
            case 8: case 9: same(text, x.times(a, b, c), m.times(a, b, c)); break;
            case 10: case 11: { int v = r.nextBoolean() ? any(r) : (int) Math.round(Math.pow(2, r.nextInt(32))) * (1 - 2 * r.nextInt(2)); same(text + " x " + v, x.worth(a, v), m.worth(a, v)); break; }
            case 12: case 13: same(text, x.expansion(a, b, i, k), m.expansion(a, b, i, k)); break;
            case 14: case 15: { int v = near(r, -3, 8); same(text, x.factor(a, i, v), m.factor(a, i, v)); break; }
            case 16: case 17: same(text, x.grow(a), m.grow(a)); break;
            case 18: same(text, x.tree(w), m.tree(w)); break;
            case 19: same(text, x.knot(i, w), m.knot(i, w)); break;
            case 20: same(text, x.key(i, k), m.key(i, k)); break;
            case 21: same(text, x.point(i, k), m.point(i, k)); break;
            case 22: same(text, x.side(i, j, w), m.side(i, j, w)); break;
            case 23: same(text, x.residual(i, j, k), m.residual(i, j, k)); break;
            case 24: same(text, x.monomial(i, j, w), m.monomial(i, j, w)); break;
            case 25: same(text, x.leaf(i, w), m.leaf(i, w)); break;
            case 26: same(text, x.spelling(n), m.spelling(n)); break;
            case 27: same(text, x.ask(), m.ask()); break;
            case 28: case 29: same(text, x.corner(s, j), m.corner(s, j)); break;
            case 30: { int v = near(r, 0, 1); same(text, x.slope(s, n, q, v), m.slope(s, n, q, v)); break; }
            case 31: same(text, x.whyNot(s, n, q), m.whyNot(s, n, q)); break;
            case 32: same(text, x.spill(i, s, n), m.spill(i, s, n)); break;
            case 33: { int sort = near(r, -1, 1); int size = near(r, 0, 40); same(text, x.sheet(s, sort, size), m.sheet(s, sort, size)); break; }
            case 34: case 35: case 36: case 37: { int v = any(r); same(text, x.cell(s, n, v), m.cell(s, n, v)); break; }
            case 38: case 39: same(text, x.item(s, n), m.item(s, n)); break;
            case 40: case 41: case 42: { int size = near(r, 0, 6); same(text, x.shift(s, n, o, q, size), m.shift(s, n, o, q, size)); break; }
            default: { int v = near(r, 0, 5); same(text, x.count(v), m.count(v)); break; }
        }
    }
}
