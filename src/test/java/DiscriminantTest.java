import java.math.BigInteger;
import java.util.Arrays;
import java.util.Random;

/**
 * Trees against what the document does not tell: p divides the discriminant of a polynomial as often as twice the INDEX
 * and the discriminants of its factors together. A factor with RAMIFICATION e and RESIDUE DEGREE d has (e - 1) d of it if
 * p does not divide e, else e d to (e - 1 + e v) d, v being how often p divides e. The class and the model might share a
 * misreading; this shares none with them.
 * It is looked at only where p divides the discriminant less than K times: beyond, NUMBERS may be too short, and the
 * document's tree is another one then (of a million trees 28 were; with a model whose K was 120, none of these).
 */
public final class DiscriminantTest {
    private static int wrong = 0;
    private static int tame = 0, wild = 0, deep = 0;

    public static void main(String[] args) {
        int many = args.length > 0 ? Integer.parseInt(args[0]) : 20000;
        Random random = new Random(args.length > 1 ? Long.parseLong(args[1]) : 5);
        for (int n = 0; n < many; n++) {
            int p = new int[] {2, 3, 5, 7}[random.nextInt(4)];
            check(p, Shapes.polynomial(random, p));
        }
        if (args.length > 0) System.out.println(tame + " tame, " + wild + " wild, " + deep + " of level 3 or more");
        if (tame == 0 || wild == 0 || deep == 0) {
            wrong++;
            System.out.println("met: " + tame + " tame, " + wild + " wild, " + deep + " of level 3 or more");
        }
        System.out.println(wrong == 0 ? "trees agree with discriminants" : wrong + " trees do not agree with discriminants");
        if (wrong != 0) System.exit(1);
    }

    private static void check(int p, int[] f) {
        TypesAtPrime x = new TypesAtPrime();
        x.prime(p);
        for (int k = 0; k < 9; k++) x.set(0, k, f[k]);
        x.grow(0);
        int degrees = 0;
        for (int i = 0; i < x.tree(1); i++) degrees += x.leaf(i, 3);
        need(degrees == x.tree(7), p, f, "DEGREES of all LEAVES are " + degrees);
        BigInteger discriminant = discriminant(f, x.tree(7));
        if (discriminant.signum() == 0) return;
        int value = value(discriminant, p);
        if (value >= x.count(1)) return;
        int least = 2 * x.tree(2), most = least;
        boolean isWild = false;
        for (int i = 0; i < x.tree(1); i++) {
            int e = x.leaf(i, 1), d = x.leaf(i, 2);
            if (e > 0 && e % p == 0) {
                isWild = true;
                least += e * d;
                most += (e - 1 + e * value(BigInteger.valueOf(e), p)) * d;
            } else if (e > 0) {
                least += (e - 1) * d;
                most += (e - 1) * d;
            }
        }
        need(value >= least, p, f, "the discriminant has " + value + ", at least due is " + least);
        // what is open may hide more
        if (x.tree(3) > 0) return;
        need(value <= most, p, f, "the discriminant has " + value + ", at most due is " + most);
        if (isWild) wild++;
        else tame++;
        if (x.tree(5) >= 3) deep++;
    }

    private static void need(boolean holds, int p, int[] f, String what) {
        if (holds) return;
        wrong++;
        if (wrong <= 20) System.out.println("p " + p + ", f " + Arrays.toString(f) + ": " + what);
    }

    private static int value(BigInteger number, int p) {
        BigInteger by = BigInteger.valueOf(p), left = number;
        int times = 0;
        while (left.mod(by).signum() == 0) {
            left = left.divide(by);
            times++;
        }
        return times;
    }

    /** But for its sign: the resultant of f and its derivative, as f has 1 in front. */
    private static BigInteger discriminant(int[] f, int degree) {
        int size = 2 * degree - 1;
        BigInteger[][] rows = new BigInteger[size][size];
        for (BigInteger[] row : rows) Arrays.fill(row, BigInteger.ZERO);
        for (int r = 0; r < degree - 1; r++) {
            for (int k = 0; k <= degree; k++) rows[r][r + degree - k] = BigInteger.valueOf(f[k]);
        }
        for (int r = 0; r < degree; r++) {
            for (int k = 1; k <= degree; k++) rows[degree - 1 + r][r + degree - k] = BigInteger.valueOf((long) k * f[k]);
        }
        return determinant(rows);
    }

    /** Without fractions (Bareiss). */
    private static BigInteger determinant(BigInteger[][] a) {
        BigInteger last = BigInteger.ONE;
        for (int k = 0; k + 1 < a.length; k++) {
            int swap = k;
            while (swap < a.length && a[swap][k].signum() == 0) swap++;
            if (swap == a.length) return BigInteger.ZERO;
            BigInteger[] row = a[k];
            a[k] = a[swap];
            a[swap] = row;
            for (int i = k + 1; i < a.length; i++) {
                for (int j = k + 1; j < a.length; j++) {
                    a[i][j] = a[i][j].multiply(a[k][k]).subtract(a[i][k].multiply(a[k][j])).divide(last);
                }
            }
            last = a[k][k];
        }
        return a[a.length - 1][a.length - 1];
    }
}
