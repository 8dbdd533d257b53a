/**
 * The promises one by one, with answers reckoned by hand: ordinary inputs, the edges that the
 * document names, and wrong inputs.
 */
public final class PromiseTest extends Checks {
    public static void main(String[] args) {
        newObject();
        prime();
        feedAndWipe();
        text();
        setAtTold();
        mix();
        times();
        worth();
        expansion();
        factor();
        grow();
        tree();
        knotKeyPoint();
        sideResidualMonomial();
        leafAndSpelling();
        ask();
        corner();
        slopeWhyNot();
        spill();
        sheetCellItem();
        shift();
        count();
        end("all promises hold");
    }

    private static void newObject() {
        promise(1);
        TypesAtPrime x = new TypesAtPrime();
        int[] counts = {3, 18, 0, 0, 0, 0};
        for (int w = 0; w < 6; w++) due("count " + w, x.count(w), counts[w]);
        for (int s = 0; s < 5; s++) for (int k = 0; k < 9; k++) due("at", x.at(s, k), 0);
        for (int s = 0; s < 4; s++) due("item", x.item(s, 0), NO);
        due("tree", x.tree(0), NONE);
        due("wipe", x.wipe(), 0);
        due("NO", TypesAtPrime.NO, Long.MIN_VALUE);
        int[] refusals = {TypesAtPrime.BAD, TypesAtPrime.NONE, TypesAtPrime.NOT, TypesAtPrime.FULL, TypesAtPrime.WIDE, TypesAtPrime.DEEP,
            TypesAtPrime.NOTHING, TypesAtPrime.OUTSIDE, TypesAtPrime.SORT, TypesAtPrime.SIZE, TypesAtPrime.BY_NOUGHT};
        int[] numbers = {-1, -2, -3, -4, -5, -6, -11, -12, -13, -14, -15};
        for (int i = 0; i < numbers.length; i++) due("refusal " + i, refusals[i], numbers[i]);
    }

    private static void prime() {
        promise(2);
        TypesAtPrime x = new TypesAtPrime();
        int[][] limits = {{2, 28}, {5, 12}, {7, 10}, {3, 18}};
        int was = 3;
        for (int[] one : limits) {
            due("prime", x.prime(one[0]), was);
            due("limit", x.count(1), one[1]);
            was = one[0];
        }
        read(x, 0, "x");
        x.grow(0);
        for (int bad : new int[] {-3, 0, 1, 4, 6, 8, 9, 11, Integer.MAX_VALUE, Integer.MIN_VALUE}) due("prime " + bad, x.prime(bad), BAD);
        due("tree stays", x.count(5), 1);
        due("the same prime", x.prime(3), 3);
        due("no tree then", x.count(5), 0);
        due("slots stay", x.at(0, 1), 1);
    }

    private static void feedAndWipe() {
        promise(3);
        TypesAtPrime x = new TypesAtPrime();
        due("feed", x.feed(0), 1);
        due("feed", x.feed(127), 2);
        due("feed", x.feed(128), BAD);
        due("feed", x.feed(-1), BAD);
        for (int n = 3; n <= 80; n++) due("feed", x.feed('x'), n);
        due("feed", x.feed('x'), FULL);
        due("bad comes first", x.feed(128), BAD);
        promise(4);
        due("wipe", x.wipe(), 80);
        due("wipe", x.wipe(), 0);
        due("feed", x.feed('x'), 1);
    }

    private static void text() {
        promise(5);
        TypesAtPrime x = new TypesAtPrime();
        due("text", read(x, 1, "-x^8+12*x^3-7+x-0012+2*x^0"), 8);
        dueRow("row", row(x, 1), -17, 1, 0, 12, 0, 0, 0, 0, -1);
        due("emptied", x.wipe(), 0);
        due("number", read(x, 1, "9999"), 0);
        due("nought", read(x, 1, "x-x"), -10);
        due("back again", read(x, 1, "9999*x+1*x-2*x"), 1);
        due("at", x.at(1, 1), 9998);
        Object[][] faults = {{"", 0}, {"-", 1}, {"+x", 0}, {"--x", 1}, {"x+", 2}, {"x+-1", 2}, {"x^", 2}, {"x^9", 2}, {"x^11", 3}, {"12345", 4},
            {"2x", 1}, {"2*", 2}, {"2*3", 2}, {"x*2", 1}, {"x x", 1}, {" x", 0}, {"x ", 1}, {"X", 0}, {"xx", 1}, {"3^2", 1}, {"x^-1", 2}, {"12*x^8*", 6}};
        for (Object[] one : faults) due("text " + one[0], read(x, 1, (String) one[0]), -100 - (Integer) one[1]);
        due("kept", x.at(1, 1), 9998);
        StringBuilder longest = new StringBuilder("x");
        while (longest.length() < 79) longest.append("-x");
        due("79", read(x, 1, longest.toString()), 1);
        due("38 times", x.at(1, 1), -38);
        due("80", read(x, 1, longest + "+"), -180);
        due("too great", read(x, 1, "9999+1"), NOT);
        due("too small", read(x, 1, "-9999*x-1*x"), NOT);
        due("a fault comes first", read(x, 1, "9999+1+"), -107);
        due("kept", x.at(1, 1), -38);
        feed(x, "x");
        due("bad", x.text(5), BAD);
        due("bad", x.text(-1), BAD);
        due("stays", x.count(2), 1);
        due("then", x.text(4), 1);
    }

    private static void setAtTold() {
        promise(6);
        TypesAtPrime x = new TypesAtPrime();
        due("set", x.set(4, 8, -9999), 0);
        due("set", x.set(4, 8, 9999), -9999);
        for (int[] bad : new int[][] {{-1, 0, 0}, {5, 0, 0}, {0, -1, 0}, {0, 9, 0}, {4, 8, 10000}, {4, 8, -10000}, {4, 8, Integer.MIN_VALUE}}) {
            due("set", x.set(bad[0], bad[1], bad[2]), NO);
        }
        promise(7);
        due("at", x.at(4, 8), 9999);
        for (int[] bad : new int[][] {{-1, 0}, {5, 0}, {0, -1}, {0, 9}}) due("at", x.at(bad[0], bad[1]), NO);
        promise(8);
        due("told", x.told(4, 0), 8);
        due("not monic", x.told(4, 1), 0);
        due("nought", x.told(3, 0), -10);
        due("nought is not monic", x.told(3, 1), 0);
        x.set(3, 0, 1);
        due("1", x.told(3, 0), 0);
        due("1 is not monic", x.told(3, 1), 0);
        x.set(3, 1, 1);
        due("x + 1", x.told(3, 1), 1);
        x.set(3, 2, -1);
        due("-x^2", x.told(3, 1), 0);
        for (int[] bad : new int[][] {{-1, 0}, {5, 1}, {0, -1}, {0, 2}}) due("told", x.told(bad[0], bad[1]), BAD);
    }

    private static void mix() {
        promise(9);
        TypesAtPrime x = new TypesAtPrime();
        read(x, 0, "3*x^2+1");
        read(x, 1, "x^3-2");
        due("mix", x.mix(0, 3333, 1, -3, 0), 1);
        dueRow("row", row(x, 0), 3339, 0, 9999, -3, 0, 0, 0, 0, 0);
        due("not", x.mix(0, 1, 1, -9997, 2), NOT);
        due("not", x.mix(0, Integer.MAX_VALUE, 0, Integer.MAX_VALUE, 2), NOT);
        due("kept", x.told(2, 0), -10);
        due("both in one", x.mix(0, Integer.MIN_VALUE, 0, Integer.MIN_VALUE, 2), NOT);
        due("off", x.mix(0, Integer.MAX_VALUE, 0, -Integer.MAX_VALUE, 0), 1);
        due("nought", x.told(0, 0), -10);
        for (int[] bad : new int[][] {{-1, 0, 0}, {5, 0, 0}, {0, -1, 0}, {0, 5, 0}, {0, 0, -1}, {0, 0, 5}}) {
            due("mix", x.mix(bad[0], 1, bad[1], 1, bad[2]), BAD);
        }
    }

    private static void times() {
        promise(10);
        TypesAtPrime x = new TypesAtPrime();
        read(x, 0, "x^4+2*x-3");
        read(x, 1, "x^5");
        read(x, 3, "100*x");
        due("square", x.times(0, 0, 0), 1);
        dueRow("row", row(x, 0), 9, -12, 4, 0, -6, 4, 0, 0, 1);
        due("deep", x.times(1, 1, 2), DEEP);
        due("by nought", x.times(0, 4, 2), 1);
        due("nought", x.told(2, 0), -10);
        due("not", x.times(3, 3, 2), NOT);
        x.set(1, 0, 9999);
        x.set(0, 0, 9999);
        due("deep comes first", x.times(0, 1, 2), DEEP);
        due("kept", x.told(2, 0), -10);
        for (int[] bad : new int[][] {{-1, 0, 0}, {5, 0, 0}, {0, -1, 0}, {0, 5, 0}, {0, 0, -1}, {0, 0, 5}}) {
            due("times", x.times(bad[0], bad[1], bad[2]), BAD);
        }
    }

    private static void worth() {
        promise(11);
        TypesAtPrime x = new TypesAtPrime();
        read(x, 0, "x^2-5*x+6");
        due("worth", x.worth(0, 4), 2);
        due("worth", x.worth(0, 2), 0);
        due("worth", x.worth(0, -1), 12);
        due("nought", x.worth(1, Integer.MIN_VALUE), 0);
        read(x, 1, "2*x^2");
        due("2 to the 63", x.worth(1, Integer.MIN_VALUE), NO);
        read(x, 1, "-2*x^2");
        due("just a long", x.worth(1, Integer.MIN_VALUE), Long.MIN_VALUE);
        read(x, 1, "-2*x^2+1");
        due("and one more", x.worth(1, Integer.MIN_VALUE), Long.MIN_VALUE + 1);
        read(x, 1, "-2*x^2-1");
        due("and one less", x.worth(1, Integer.MIN_VALUE), NO);
        read(x, 1, "x^8-9999*x^7");
        due("products that come back", x.worth(1, 9999), 0);
        due("a product too great on the way", x.worth(1, 20000), NO);
        // -2^63 is met on the way and is a long; times -1 it is none
        read(x, 1, "x^8");
        due("1", x.worth(1, -1), 1);
        due("256 to the 8", x.worth(1, 256), NO);
        due("128 to the 8", x.worth(1, -128), 1L << 56);
        due("slot", x.worth(5, 0), NO);
        due("slot", x.worth(-1, 0), NO);
    }

    private static void expansion() {
        promise(12);
        TypesAtPrime x = new TypesAtPrime();
        read(x, 0, "x^6-27");
        read(x, 1, "x^2-3");
        long[][] parts = {{0, 0}, {27, 0}, {9, 0}, {1, 0}, {0, 0}};
        for (int i = 0; i < parts.length; i++) for (int k = 0; k < 2; k++) due("expansion " + i, x.expansion(0, 1, i, k), parts[i][k]);
        due("beyond", x.expansion(0, 1, 8, 8), 0);
        due("by itself", x.expansion(0, 0, 1, 0), 1);
        due("by itself", x.expansion(0, 0, 0, 0), 0);
        read(x, 2, "x^8+x^5");
        due("of less degree", x.expansion(1, 2, 0, 0), 387420489 - 3);
        due("of less degree", x.expansion(1, 2, 0, 2), 1);
        read(x, 3, "x+1");
        x.prime(7);
        due("by 7 to the 10", x.expansion(3, 3, 0, 0), 0);
        read(x, 4, "x");
        due("by x", x.expansion(0, 4, 0, 0), 282475249 - 27);
        read(x, 4, "2*x");
        due("not monic", x.expansion(0, 4, 0, 0), NO);
        read(x, 4, "1");
        due("not monic", x.expansion(0, 4, 0, 0), NO);
        for (int[] bad : new int[][] {{-1, 0, 0, 0}, {5, 0, 0, 0}, {0, -1, 0, 0}, {0, 5, 0, 0}, {0, 0, -1, 0}, {0, 0, 9, 0}, {0, 0, 0, -1}, {0, 0, 0, 9}}) {
            due("expansion", x.expansion(bad[0], bad[1], bad[2], bad[3]), NO);
        }
    }

    private static void dueFactors(TypesAtPrime x, String text, int p, int[]... factors) {
        x.prime(p);
        read(x, 0, text);
        due(text + " how many", x.factor(0, -9, -1), factors.length);
        for (int i = 0; i < factors.length; i++) {
            due(text + " how often", x.factor(0, i, -2), factors[i][0]);
            due(text + " degree", x.factor(0, i, -3), factors[i].length - 2);
            for (int k = 0; k <= 8; k++) due(text + " factor " + i + " at " + k, x.factor(0, i, k), k + 1 < factors[i].length ? factors[i][k + 1] : 0);
        }
        due(text + " no more", x.factor(0, factors.length, -2), NO);
    }

    private static void factor() {
        promise(13);
        TypesAtPrime x = new TypesAtPrime();
        // how often, then the coefficients from that of x^0 on
        dueFactors(x, "x^8+1", 2, new int[] {8, 1, 1});
        dueFactors(x, "x^8-x^2", 2, new int[] {2, 0, 1}, new int[] {2, 1, 1}, new int[] {2, 1, 1, 1});
        dueFactors(x, "x^8+x^4+x^3+x+1", 2, new int[] {1, 1, 1, 0, 1, 1, 0, 0, 0, 1});
        dueFactors(x, "2*x^2+2*x+2", 3, new int[] {2, 2, 1});
        dueFactors(x, "x^7-x", 7, new int[] {1, 0, 1}, new int[] {1, 1, 1}, new int[] {1, 2, 1}, new int[] {1, 3, 1}, new int[] {1, 4, 1}, new int[] {1, 5, 1}, new int[] {1, 6, 1});
        dueFactors(x, "x^8-1", 3, new int[] {1, 1, 1}, new int[] {1, 2, 1}, new int[] {1, 1, 0, 1}, new int[] {1, 2, 1, 1}, new int[] {1, 2, 2, 1});
        dueFactors(x, "x^8+1", 5, new int[] {1, 2, 0, 0, 0, 1}, new int[] {1, 3, 0, 0, 0, 1});
        dueFactors(x, "x^8+2*x^4+2", 5, new int[] {1, 1, 1}, new int[] {1, 2, 1}, new int[] {1, 3, 1}, new int[] {1, 4, 1}, new int[] {1, 3, 0, 0, 0, 1});
        dueFactors(x, "5*x^3+2", 5);
        x.prime(5);
        read(x, 1, "5*x^3+25");
        due("0 over residues", x.factor(1, 0, -1), NO);
        due("0", x.factor(2, 0, -1), NO);
        read(x, 1, "x");
        for (int[] bad : new int[][] {{-1, 0, -1}, {5, 0, -1}, {1, 0, -4}, {1, 0, 9}, {1, -1, 0}, {1, 1, 0}, {1, 1, -2}, {1, 9, -3}}) {
            due("factor", x.factor(bad[0], bad[1], bad[2]), NO);
        }
    }

    private static void grow() {
        promise(14);
        TypesAtPrime x = grown(3, "x^6-27");
        dueText("spelling", spelled(x), "2.1!+2.2");
        due("bad", x.grow(-1), BAD);
        due("bad", x.grow(5), BAD);
        due("not", x.grow(1), NOT);
        x.set(1, 0, 1);
        due("1 is not monic", x.grow(1), NOT);
        x.set(1, 3, 2);
        due("2 in front", x.grow(1), NOT);
        dueText("stays", spelled(x), "2.1!+2.2");
        x.set(0, 0, 5);
        dueText("stays when the slot changes", spelled(x), "2.1!+2.2");
        read(x, 1, "x");
        due("grow", x.grow(1), 1);
        dueText("spelling", spelled(x), "1.1");
        String[][] all = {{"2", "x^2+2*x+1", "??2"}, {"3", "x^3-x^2", "???2+1.1"}, {"2", "x^4+2*x^3+3*x^2+2*x+1", "?4"},
            {"2", "x^3+2*x^2+16*x+1024", "1.1+1.1+1.1"}, {"5", "x^8-5", "8.1"}, {"7", "x^8", "???8"}, {"2", "x^8+x^4+x^3+x+1", "1.8"}};
        for (String[] one : all) dueText(one[1], spelled(grown(Integer.parseInt(one[0]), one[1])), one[2]);
    }

    private static void tree() {
        promise(15);
        TypesAtPrime x = grown(3, "x^6-27");
        int[] want = {2, 2, 9, 0, 2, 2, 8, 6};
        for (int w = 0; w < 8; w++) due("tree " + w, x.tree(w), want[w]);
        x = grown(2, "x^2+2*x+1");
        want = new int[] {6, 1, 6, 2, 0, 6, 3, 2};
        for (int w = 0; w < 8; w++) due("deep tree " + w, x.tree(w), want[w]);
        x = grown(5, "x-3");
        want = new int[] {0, 1, 0, 0, 1, 0, 3, 1};
        for (int w = 0; w < 8; w++) due("low tree " + w, x.tree(w), want[w]);
        due("bad", x.tree(-1), BAD);
        due("bad", x.tree(8), BAD);
        x.prime(5);
        due("none", x.tree(7), NONE);
        due("bad comes first", x.tree(8), BAD);
    }

    private static void knotKeyPoint() {
        promise(16);
        TypesAtPrime x = grown(3, "x^6-27");
        int[][] want = {{1, 6, 1, 1, 6, -2, 0}, {2, 3, 2, 1, 3, 0, 1}};
        for (int i = 0; i < 2; i++) for (int w = 0; w < 7; w++) due("knot " + i + " " + w, x.knot(i, w), want[i][w]);
        due("none", x.knot(2, 0), NONE);
        due("none", x.knot(-1, 0), NONE);
        due("bad comes first", x.knot(2, 7), BAD);
        due("bad", x.knot(0, -1), BAD);
        due("no tree", new TypesAtPrime().knot(0, 0), NONE);
        TypesAtPrime deep = grown(2, "x^2+2*x+1");
        for (int i = 0; i < 6; i++) {
            int[] all = {i + 1, 2, 1, 1, 1, i == 0 ? -2 : i - 1, 0};
            for (int w = 0; w < 7; w++) due("deep knot " + i + " " + w, deep.knot(i, w), all[w]);
        }
        TypesAtPrime lost = grown(7, "x^8");
        int[] all = {1, 8, 1, 0, 0, -2, 8};
        for (int w = 0; w < 7; w++) due("lost knot " + w, lost.knot(0, w), all[w]);
        promise(17);
        long[][] keys = {{0, 1, 0, 0, 0, 0, 0, 0, 0}, {387420489 - 3, 0, 1, 0, 0, 0, 0, 0, 0}};
        for (int i = 0; i < 2; i++) for (int k = 0; k < 9; k++) due("key " + i + " " + k, x.key(i, k), keys[i][k]);
        for (int i = 0; i < 6; i++) due("deep key " + i, deep.key(i, 0), (1L << 28) - (2L << i) + 1);
        for (int[] bad : new int[][] {{-1, 0}, {2, 0}, {0, -1}, {0, 9}}) due("key", x.key(bad[0], bad[1]), NO);
        promise(18);
        int none = NONE;
        int[][] points = {{3, none, none, none, none, none, 0, none, none}, {none, 8, 8, 6, none, none, none, none, none}};
        for (int i = 0; i < 2; i++) for (int k = 0; k < 9; k++) due("point " + i + " " + k, x.point(i, k), points[i][k]);
        for (int i = 0; i < 6; i++) {
            int r = i + 1;
            int[] w = {2 * r, 2 * r, 2 * (r - 1)};
            for (int k = 0; k < 3; k++) due("deep point " + i + " " + k, deep.point(i, k), w[k]);
        }
        due("none", x.point(2, 0), none);
        due("none", x.point(-1, 0), none);
        due("bad comes first", x.point(2, 9), BAD);
        due("bad", x.point(0, -1), BAD);
    }

    private static void sideResidualMonomial() {
        TypesAtPrime x = grown(3, "x^6-27"), many = grown(2, "x^3+2*x^2+16*x+1024");
        promise(19);
        int[][] sides = {{0, 6, 3, 2, 3, 1}, {1, 3, 2, 1, 2, 3}};
        for (int i = 0; i < 2; i++) for (int w = 0; w < 6; w++) due("side " + i + " " + w, x.side(i, 0, w), sides[i][w]);
        int[][] three = {{0, 1, 6, 1, 1, 6}, {1, 2, 3, 1, 1, 3}, {2, 3, 1, 1, 1, 1}};
        for (int j = 0; j < 3; j++) for (int w = 0; w < 6; w++) due("side of three " + j + " " + w, many.side(0, j, w), three[j][w]);
        due("index of three", many.knot(0, 4), 5);
        due("none", many.side(0, 3, 0), NONE);
        due("none", many.side(0, -1, 0), NONE);
        due("none", many.side(1, 0, 0), NONE);
        due("bad comes first", many.side(1, 0, 6), BAD);
        due("bad", many.side(0, 0, -1), BAD);
        promise(20);
        int[][] residuals = {{2, 0, 0, 1, 0, 0, 0, 0, 0}, {1, 0, 1, 0, 0, 0, 0, 0, 0}};
        for (int i = 0; i < 2; i++) for (int k = 0; k < 9; k++) due("residual " + i + " " + k, x.residual(i, 0, k), residuals[i][k]);
        for (int j = 0; j < 3; j++) for (int k = 0; k < 9; k++) due("residual of three", many.residual(0, j, k), k < 2 ? 1 : 0);
        due("none", x.residual(2, 0, 0), NONE);
        due("none", x.residual(0, 1, 0), NONE);
        due("bad comes first", x.residual(2, 0, 9), BAD);
        due("bad", x.residual(0, 0, -1), BAD);
        promise(21);
        int[][] monomials = {{1, 0, 0, 0, 0, 0, 0}, {1, 1, 0, 0, 0, 0, 0}};
        for (int i = 0; i < 2; i++) for (int w = 0; w < 7; w++) due("monomial " + i + " " + w, x.monomial(i, 0, w), monomials[i][w]);
        for (int j = 0; j < 3; j++) due("monomial of three", many.monomial(0, j, 0), three[j][5]);
        due("none", x.monomial(2, 0, 0), NONE);
        due("none", x.monomial(0, 1, 0), NONE);
        due("bad comes first", x.monomial(2, 0, 7), BAD);
        due("bad", x.monomial(0, 0, -1), BAD);
    }

    private static void dueLeaf(TypesAtPrime x, int i, int... want) {
        for (int w = 0; w < 5; w++) due("leaf " + i + " " + w, x.leaf(i, w), want[w]);
    }

    private static void leafAndSpelling() {
        promise(22);
        TypesAtPrime x = grown(3, "x^6-27");
        dueLeaf(x, 0, 1, 2, 1, 2, 1);
        dueLeaf(x, 1, 0, 2, 2, 4, 1);
        TypesAtPrime y = grown(3, "x^3-x^2");
        dueLeaf(y, 0, 4, 0, 0, 2, 0);
        dueLeaf(y, 1, 0, 1, 1, 1, -2);
        dueLeaf(grown(2, "x^4+2*x^3+3*x^2+2*x+1"), 0, 2, 0, 0, 4, -2);
        dueLeaf(grown(2, "x^2+2*x+1"), 0, 3, 0, 0, 2, 5);
        due("none", x.leaf(2, 0), NONE);
        due("none", x.leaf(-1, 0), NONE);
        due("bad comes first", x.leaf(2, 5), BAD);
        due("bad", x.leaf(0, -1), BAD);
        promise(23);
        dueText("spelling", spelled(y), "???2+1.1");
        due("none", y.spelling(8), NONE);
        due("none", y.spelling(-1), NONE);
        due("no tree", new TypesAtPrime().spelling(0), NONE);
    }

    private static int askedOnce(TypesAtPrime x, String word) {
        int answer = asked(x, word);
        due("the tape is empty", x.count(2), 0);
        return answer;
    }

    private static void ask() {
        promise(24);
        TypesAtPrime x = new TypesAtPrime();
        String[] words = {"knots", "leaves", "index", "open", "wild", "levels", "size", "degree"};
        for (String word : words) due(word, askedOnce(x, word), NONE);
        due("prime", askedOnce(x, "prime"), 3);
        for (String other : new String[] {"", "knot", "knotss", "Knots", "primes", "x"}) due(other, askedOnce(x, other), NOT);
        x = grown(3, "x^6-27");
        int[] want = {2, 2, 9, 0, 2, 2, 8, 6};
        for (int w = 0; w < 8; w++) due(words[w], askedOnce(x, words[w]), want[w]);
        due("prime", askedOnce(x, "prime"), 3);
    }

    private static void corner() {
        promise(25);
        TypesAtPrime x = new TypesAtPrime();
        due("nothing", x.corner(0, 0), NOTHING);
        due("bad", x.corner(4, 0), BAD);
        due("bad", x.corner(-1, 0), BAD);
        fill(x, 0, 1, -5, 6, 4, 2, -1, 0, 0, 0, 3, -2);
        dueCorners(x, 0, 1, 3, 5, 7, 8);
        due("below 0", x.corner(0, -1), NONE);
        fill(x, 1, 1, Integer.MAX_VALUE, 0, Integer.MAX_VALUE, Integer.MIN_VALUE);
        dueCorners(x, 1, 0, 1, 2);
        fill(x, 2, 1, 3, 3, 3, 3);
        dueCorners(x, 2, 0, 3);
        fill(x, 2, 0, -1, 127, 128, 255);
        dueCorners(x, 2, 1);
        fill(x, 2, 0, -1);
        dueCorners(x, 2);
        fill(x, 2, 0);
        dueCorners(x, 2);
        x.sheet(3, 1, 40);
        dueCorners(x, 3, 0, 39);
        for (int i = 0; i < 40; i++) x.cell(3, i, (i - 20) * (i - 20));
        for (int i = 0; i < 40; i++) due("all are corners", x.corner(3, i), i);
    }

    private static void slopeWhyNot() {
        promise(26);
        TypesAtPrime x = new TypesAtPrime();
        fill(x, 0, 1, 9, -2, Integer.MIN_VALUE, Integer.MAX_VALUE, 0);
        due("slope", x.slope(0, 0, 4, 0), 2);
        due("rest", x.slope(0, 0, 4, 1), 1);
        due("back", x.slope(0, 4, 0, 0), 2);
        due("back, rest", x.slope(0, 4, 0, 1), -1);
        due("cut off", x.slope(0, 1, 4, 0), 0);
        due("cut off, rest", x.slope(0, 1, 4, 1), -2);
        due("great", x.slope(0, 3, 2, 0), -(1L << 32) + 1);
        due("great", x.slope(0, 2, 3, 0), -(1L << 32) + 1);
        for (int[] bad : new int[][] {{-1, 0, 1, 0}, {4, 0, 1, 0}, {0, 0, 1, -1}, {0, 0, 1, 2}, {1, 0, 1, 0}, {0, -1, 1, 0}, {0, 5, 1, 0}, {0, 0, -1, 0}, {0, 0, 5, 0}, {0, 2, 2, 0}, {0, 2, 2, 1}}) {
            due("slope", x.slope(bad[0], bad[1], bad[2], bad[3]), NO);
        }
        promise(27);
        due("there is one", x.whyNot(0, 0, 4), 0);
        due("bad", x.whyNot(4, 0, 0), BAD);
        due("bad", x.whyNot(-1, 0, 0), BAD);
        due("nothing", x.whyNot(1, 9, 9), NOTHING);
        due("outside comes first", x.whyNot(0, 5, 5), OUTSIDE);
        due("outside", x.whyNot(0, -1, 0), OUTSIDE);
        due("outside", x.whyNot(0, 0, 5), OUTSIDE);
        due("by nought", x.whyNot(0, 4, 4), BY_NOUGHT);
    }

    private static void spill() {
        promise(28);
        TypesAtPrime x = grown(3, "x^6-27");
        fill(x, 0, 1, 5, 5, 5, 5, 5, 5, 5, 5, 5, 5, 5);
        due("spill", x.spill(1, 0, 1), 9);
        dueItems(x, 0, 5, -1, 8, 8, 6, -1, -1, -1, -1, -1, 5);
        due("spill", x.spill(0, 0, 9), 2);
        dueItems(x, 0, 5, -1, 8, 8, 6, -1, -1, -1, -1, 3, -1);
        due("no room", x.spill(0, 0, 11), 0);
        due("outside", x.spill(0, 0, 12), OUTSIDE);
        due("outside", x.spill(0, 0, -1), OUTSIDE);
        due("nothing comes before outside", x.spill(0, 1, -1), NOTHING);
        due("none comes before nothing", x.spill(2, 1, 0), NONE);
        due("bad comes first", x.spill(2, 4, 0), BAD);
        due("bad", x.spill(0, -1, 0), BAD);
        due("kept", x.item(0, 0), 5);
        x.sheet(1, 0, 3);
        due("bytes", x.spill(1, 1, 0), 3);
        dueItems(x, 1, -1, 8, 8);
    }

    private static void sheetCellItem() {
        promise(29);
        TypesAtPrime x = new TypesAtPrime();
        due("sheet", x.sheet(0, 0, 40), 1);
        due("item", x.item(0, 39), 0);
        due("bad", x.sheet(0, 0, 41), BAD);
        due("bad", x.sheet(0, 2, 1), BAD);
        due("bad", x.sheet(0, -2, 1), BAD);
        due("bad comes first", x.sheet(0, 2, -1), BAD);
        due("bad", x.sheet(4, 0, 1), BAD);
        due("bad", x.sheet(-1, 0, 1), BAD);
        due("size", x.sheet(0, 1, -1), SIZE);
        due("still bytes", x.cell(0, 0, 256), 1);
        due("still bytes", x.item(0, 0), 0);
        due("missing", x.sheet(0, -1, -7), 1);
        due("missing", x.cell(0, 0, 1), NOTHING);
        due("missing", x.sheet(0, -1, 99), 1);
        due("empty", x.sheet(3, 1, 0), 1);
        due("empty", x.cell(3, 0, 0), OUTSIDE);
        promise(30);
        x.sheet(0, 0, 2);
        x.sheet(1, 1, 2);
        due("cell", x.cell(0, 1, 200), 1);
        due("byte", x.item(0, 1), -56);
        due("cell", x.cell(0, 0, -129), 1);
        due("byte", x.item(0, 0), 127);
        due("cell", x.cell(1, 1, Integer.MIN_VALUE), 1);
        due("bad", x.cell(4, 0, 0), BAD);
        due("bad", x.cell(-1, 0, 0), BAD);
        due("nothing", x.cell(2, 9, 0), NOTHING);
        due("outside", x.cell(0, 2, 0), OUTSIDE);
        due("outside", x.cell(0, -1, 0), OUTSIDE);
        x.sheet(0, 0, 2);
        dueItems(x, 0, 0, 0);
        promise(31);
        due("item", x.item(1, 1), Integer.MIN_VALUE);
        for (int[] bad : new int[][] {{-1, 0}, {4, 0}, {2, 0}, {1, 2}, {1, -1}, {1, Integer.MAX_VALUE}}) due("item", x.item(bad[0], bad[1]), NO);
    }

    private static void shift() {
        promise(32);
        TypesAtPrime x = new TypesAtPrime();
        fill(x, 0, 1, 1, 2, 3, 4, 5);
        fill(x, 1, 1, 9, 9, 9);
        fill(x, 2, 0, 7);
        due("shift", x.shift(0, 1, 1, 0, 2), 2);
        dueItems(x, 1, 2, 3, 9);
        due("upwards", x.shift(0, 0, 0, 1, 4), 4);
        dueItems(x, 0, 1, 1, 2, 3, 4);
        due("downwards", x.shift(0, 1, 0, 0, 4), 4);
        dueItems(x, 0, 1, 2, 3, 4, 4);
        due("none of them", x.shift(0, 5, 1, 3, 0), 0);
        due("the whole row", x.shift(1, 0, 0, 2, 3), 3);
        dueItems(x, 0, 1, 2, 2, 3, 9);
        x.sheet(3, 1, 40);
        due("all room", x.shift(3, 0, 3, 0, 40), 40);
        due("from all room", x.shift(0, 4, 3, 39, 1), 1);
        due("last", x.item(3, 39), 9);
        x.sheet(3, -1, 0);
        fill(x, 0, 1, 1, 2, 3, 4, 4);
        for (int[] out : new int[][] {{-1, 0, 1}, {0, -1, 1}, {0, 0, -1}, {5, 0, 1}, {0, 3, 1}, {0, 0, 4}, {3, 0, 3}, {6, 0, 0}, {0, 4, 0}, {1, 0, Integer.MAX_VALUE}, {Integer.MAX_VALUE, 0, 1}, {0, Integer.MAX_VALUE, 1}}) {
            due("outside", x.shift(0, out[0], 1, out[1], out[2]), OUTSIDE);
        }
        due("sort comes before outside", x.shift(0, -1, 2, 0, 1), SORT);
        due("nothing comes before sort", x.shift(2, 0, 3, 0, 1), NOTHING);
        due("nothing", x.shift(3, 0, 2, 0, 1), NOTHING);
        due("bad comes first", x.shift(3, 0, 4, 0, 1), BAD);
        due("bad", x.shift(-1, 0, 0, 0, 1), BAD);
        dueItems(x, 0, 1, 2, 3, 4, 4);
        dueItems(x, 1, 2, 3, 9);
    }

    private static void count() {
        promise(33);
        TypesAtPrime x = grown(7, "x^2-7");
        x.set(3, 5, -1);
        feed(x, "abc");
        x.sheet(0, 0, 0);
        x.sheet(2, 1, 4);
        x.sheet(3, 1, 4);
        int[] want = {7, 10, 3, 9, 3, 1};
        for (int w = 0; w < 6; w++) due("count " + w, x.count(w), want[w]);
        x.sheet(3, -1, 0);
        x.set(0, 2, 0);
        x.set(0, 0, 0);
        due("sheets", x.count(4), 2);
        due("slots", x.count(3), 8);
        due("bad", x.count(-1), BAD);
        due("bad", x.count(6), BAD);
    }
}
