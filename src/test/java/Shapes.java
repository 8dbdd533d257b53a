import java.util.Arrays;
import java.util.Random;

/** Polynomials for the tests, by chance but from seeds. */
final class Shapes {
    private Shapes() {
    }

    /** With 1 in front, and such that its tree is not always low. */
    static int[] polynomial(Random random, int p) {
        for (int turn = 0; turn < 1000; turn++) {
            long[] f;
            switch (random.nextInt(6)) {
                case 0: f = scattered(random, p); break;
                case 1: f = times(power(small(random, p), 1 + random.nextInt(3)), power(small(random, p), 1 + random.nextInt(3))); break;
                case 2: f = times(power(small(random, p), 1 + random.nextInt(8)), scattered(random, p)); break;
                default: f = nested(random, p);
            }
            if (f == null) continue;
            if (random.nextInt(3) == 0) f = disturbed(random, p, f);
            int[] row = fitting(f);
            if (row != null) return row;
        }
        return new int[] {0, 1, 0, 0, 0, 0, 0, 0, 0};
    }

    private static long part(Random random, int p) {
        return (long) Math.pow(p, random.nextInt(p == 2 ? 7 : 5)) * (random.nextInt(2 * p) - p + 1);
    }

    private static long[] scattered(Random random, int p) {
        int degree = 1 + random.nextInt(8);
        long[] f = new long[degree + 1];
        f[degree] = 1;
        int shape = random.nextInt(4);
        for (int k = 0; k < degree; k++) {
            if (shape == 0) f[k] = random.nextInt(19999) - 9999;
            else if (shape == 1) f[k] = p * part(random, p);
            else if (random.nextInt(2) == 0) f[k] = part(random, p);
        }
        return f;
    }

    private static long[] small(Random random, int p) {
        int degree = 1 + random.nextInt(2);
        long[] f = new long[degree + 1];
        f[degree] = 1;
        for (int k = 0; k < degree; k++) f[k] = random.nextInt(3) == 0 ? random.nextInt(4 * p) - 2 * p : part(random, p);
        return f;
    }

    /** Keys by hand: each a power of the last one and a little that stands above it. */
    private static long[] nested(Random random, int p) {
        long[] last = {random.nextInt(2 * p + 1) - p, 1}, before = {1};
        int height = 1 + random.nextInt(6);
        for (int k = 0; k < height; k++) {
            int e = new int[] {1, 1, 2, 2, 2, 3, 4}[random.nextInt(7)];
            long[] next = power(last, e);
            if (next.length > 9) return null;
            long little = (long) Math.pow(p, 1 + random.nextInt(6)) * (1 + random.nextInt(p));
            long[] more = times(new long[] {little}, power(before, random.nextInt(2)));
            next = plus(next, more, next.length);
            before = last;
            last = next;
        }
        if (random.nextInt(2) == 0) last = power(last, Math.max(1, 8 / (last.length - 1)));
        return last;
    }

    private static long[] disturbed(Random random, int p, long[] f) {
        long[] g = f.clone();
        int k = random.nextInt(f.length - 1);
        g[k] += (long) Math.pow(p, random.nextInt(9)) * (random.nextInt(3) - 1);
        return g;
    }

    private static long[] times(long[] a, long[] b) {
        long[] c = new long[a.length + b.length - 1];
        for (int i = 0; i < a.length; i++) for (int j = 0; j < b.length; j++) c[i + j] += a[i] * b[j];
        return c;
    }

    private static long[] power(long[] a, int e) {
        long[] c = {1};
        for (int n = 0; n < e && c.length < 20; n++) c = times(c, a);
        return c;
    }

    private static long[] plus(long[] a, long[] b, int size) {
        long[] c = Arrays.copyOf(a, size);
        for (int k = 0; k < size - 1 && k < b.length; k++) c[k] += b[k];
        return c;
    }

    private static int[] fitting(long[] f) {
        if (f.length > 9 || f.length < 2) return null;
        int[] row = new int[9];
        for (int k = 0; k < f.length; k++) {
            if (Math.abs(f[k]) > 9999) return null;
            row[k] = (int) f[k];
        }
        return row;
    }
}
