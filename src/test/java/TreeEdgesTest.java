/** The boundary cases that the document names for THE TREE, sentence by sentence (promises 14 to 24), reckoned by hand. */
public final class TreeEdgesTest extends Checks {
    private static final int[] NO_SLOTS = {MIN, -1, 5, MAX}, NO_POWERS = {MIN, -1, 9, MAX};
    private static final String[] WORDS = {"knots", "leaves", "index", "open", "wild", "levels", "size", "degree"};

    public static void main(String[] args) {
        growRefused();
        growSmallestAndLargest();
        growAgain();
        growOften();
        factorsOfLevelNought();
        firstKeys();
        orderOfKnotsAndLeaves();
        orderOfSides();
        firstPoint();
        firstPointOfLevelTwo();
        noPointAtAll();
        numbersAtTheLimit();
        cornersAndSides();
        residualHoles();
        residualOfRoots();
        headOfAPart();
        keysOfKeys();
        exponentsTooLarge();
        hardBelowAKnot();
        deepestLevel();
        deepLeaves();
        index();
        fullTree();
        treeTold();
        knotTold();
        keyTold();
        pointTold();
        sideTold();
        residualTold();
        monomialTold();
        leafTold();
        spellingTold();
        askedWords();
        askedEmptiesTheTape();
        end("trees keep to their edges");
    }

    /** KNOT i: level, MANIFOLD, degree, SIDES, INDEX, the one above, z. */
    private static void dueKnot(TypesAtPrime x, int i, int... want) {
        for (int what = 0; what < 7; what++) due("knot " + i + " " + what, x.knot(i, what), want[what]);
    }

    /** All w_k of KNOT i from that of 0 on; -2 stands for none. */
    private static void duePoints(TypesAtPrime x, int i, int... want) {
        for (int k = 0; k <= 8; k++) due("point " + i + " " + k, x.point(i, k), k < want.length ? want[k] : NONE);
    }

    /** SIDE j of KNOT i: begin, end, FALL, RAMIFICATION, g, l_r times E e_r. */
    private static void dueSide(TypesAtPrime x, int i, int j, int... want) {
        for (int what = 0; what < 6; what++) due("side " + i + " " + j + " " + what, x.side(i, j, what), want[what]);
    }

    private static void dueResidual(TypesAtPrime x, int i, int j, int... want) {
        for (int k = 0; k <= 8; k++) due("residual " + i + " " + j + " " + k, x.residual(i, j, k), k < want.length ? want[k] : 0);
    }

    private static void dueMonomial(TypesAtPrime x, int i, int j, int... want) {
        for (int what = 0; what <= 6; what++) due("monomial " + i + " " + j + " " + what, x.monomial(i, j, what), what < want.length ? want[what] : 0);
    }

    /** LEAF i: kind, RAMIFICATION, RESIDUE DEGREE, DEGREE, its KNOT. */
    private static void dueLeaf(TypesAtPrime x, int i, int... want) {
        for (int what = 0; what < 5; what++) due("leaf " + i + " " + what, x.leaf(i, what), want[what]);
    }

    private static void dueSpelling(int p, String text, String want) {
        dueText(text + " at " + p, spelled(grown(p, text)), want);
    }

    // ---- 14, and how a tree grows

    private static void growRefused() {
        TypesAtPrime x = grown(3, "x^6-27");
        says(14, "BAD");
        for (int slot : NO_SLOTS) due("slot " + slot, x.grow(slot), BAD);
        says(14, "NOT: it is not MONIC");
        for (String text : new String[] {"0", "1", "-1", "2", "-x", "2*x", "4*x^2+x", "-x^8+x", "3*x^8+x^7"}) {
            read(x, 1, text);
            due(text, x.grow(1), NOT);
        }
        says(14, "A call that refuses changes nothing");
        dueText("spelling", spelled(x), "2.1!+2.2");
        due("knots", x.tree(0), 2);
        TypesAtPrime y = new TypesAtPrime();
        due("of 0", y.grow(0), NOT);
        due("still none", y.count(5), 0);
    }

    private static void growSmallestAndLargest() {
        says(14, "a MONIC POLYNOMIAL, DEGREE 1 .. 8");
        for (int p : new int[] {2, 3, 5, 7}) {
            dueSpelling(p, "x", "1.1");
            dueSpelling(p, "x-9999", "1.1");
            dueSpelling(p, "x^8-" + p, "8.1");
            dueSpelling(p, "x^8", "???8");
        }
        for (int slot = 0; slot < 5; slot++) {
            TypesAtPrime x = new TypesAtPrime();
            read(x, slot, "x^2-1");
            due("slot " + slot, x.grow(slot), 2);
        }
    }

    private static void growAgain() {
        says(14, "THE TREE is that of a SLOT's POLYNOMIAL");
        TypesAtPrime x = grown(2, "x^2+2*x+1");
        due("six knots", x.tree(0), 6);
        read(x, 1, "x^2-2");
        due("another one", x.grow(1), 1);
        due("one knot", x.tree(0), 1);
        due("nothing is left of the others", x.knot(1, 0), NONE);
        due("nor of their keys", x.key(1, 0), NO);
        due("nor of their sides", x.side(0, 1, 0), NONE);
        dueText("spelling", spelled(x), "2.1");
        dueKnot(x, 0, 1, 2, 1, 1, 0, NONE, 0);
        duePoints(x, 0, 1, NONE, 0);
        read(x, 1, "x-1");
        due("a leaf alone", x.grow(1), 1);
        due("no knot", x.knot(0, 0), NONE);
        due("degree", x.tree(7), 1);
        says(14, "what becomes of the SLOT later does not matter");
        read(x, 1, "x^8");
        due("degree", x.tree(7), 1);
        dueText("spelling", spelled(x), "1.1");
    }

    private static void growOften() {
        says(14, "THE TREE is that one alone, however many stood before");
        TypesAtPrime x = grown(2, "x^8+16*x^4+64");
        read(x, 1, "x^2+2*x+1");
        for (int n = 0; n < 60; n++) {
            due("the larger one", x.grow(0), 1);
            due("its key", x.key(5, 4), 1);
            due("the smaller one", x.grow(1), 1);
        }
        for (int i = 0; i < 6; i++) {
            due("its side", x.side(i, 0, 1), 2);
            due("its key", x.key(i, 1), 1);
            due("nothing of the other key", x.key(i, 4), 0);
            for (int k = 3; k <= 8; k++) due("nothing of the other points", x.point(i, k), NONE);
            dueMonomial(x, i, 0, i + 1);
        }
    }

    private static void factorsOfLevelNought() {
        says(14, "one that divides it once makes a LEAF DECIDED");
        dueLeaf(grown(3, "x^2+1"), 0, 0, 1, 2, 2, NONE);
        dueLeaf(grown(2, "x^8+x^4+x^3+x+1"), 0, 0, 1, 8, 8, NONE);
        says(14, "x less r, that divides it m times (m 2 or more) a KNOT of level 1");
        for (int m = 2; m <= 8; m++) dueKnot(grown(7, "x^" + m), 0, 1, m, 1, 0, 0, NONE, m);
        due("once: no knot", grown(3, "x^2-1").tree(0), 0);
        says(14, "any other one a LEAF HARD, of DEGREE its degree times m");
        dueLeaf(grown(2, "x^4+x^2+1"), 0, 2, 0, 0, 4, NONE);
        dueLeaf(grown(2, "x^6+x^5+x^3+x+1"), 0, 2, 0, 0, 6, NONE);
        dueLeaf(grown(2, "x^8+x^4+1"), 0, 2, 0, 0, 8, NONE);
        dueLeaf(grown(2, "x^8+x^2+1"), 0, 2, 0, 0, 8, NONE);
        due("hard: no knot", grown(2, "x^8+x^4+1").tree(0), 0);
        // x by x + 2 by (x^2 + 1)^2
        dueSpelling(3, "x^6+2*x^5+2*x^4+4*x^3+x^2+2*x", "1.1+1.1+?4");
    }

    private static void firstKeys() {
        says(17, "KEY x - r, in NUMBERS: 0 or more");
        long[] sizes = {1L << 28, 387420489, 244140625, 282475249};
        int[] primes = {2, 3, 5, 7};
        for (int i = 0; i < 4; i++) {
            for (int r = 0; r < primes[i]; r++) {
                // (x - r)^2 less p
                TypesAtPrime x = grown(primes[i], "x^2-" + 2 * r + "*x+" + r * r + "-" + primes[i]);
                due("r " + r, x.key(0, 0), r == 0 ? 0 : sizes[i] - r);
                due("x", x.key(0, 1), 1);
                for (int k = 2; k <= 8; k++) due("no more", x.key(0, k), 0);
                dueText("spelling", spelled(x), "2.1");
            }
        }
    }

    private static void orderOfKnotsAndLeaves() {
        says(14, "What a KNOT makes comes right behind it, with all below, ahead of what is next");
        // (x^2 - 6 x - 18)(x^2 - 4 x + 1)(x - 1): x twice, x - 2 twice, x - 1 once
        TypesAtPrime x = grown(3, "x^5-11*x^4+17*x^3+59*x^2-84*x+18");
        dueText("spelling", spelled(x), "2.1+2.1+1.1");
        due("knots", x.tree(0), 3);
        dueKnot(x, 0, 1, 2, 1, 1, 1, NONE, 0);
        dueKnot(x, 1, 2, 2, 1, 1, 0, 0, 0);
        dueKnot(x, 2, 1, 2, 1, 1, 0, NONE, 0);
        due("the key below", x.key(1, 0), 387420489 - 3);
        due("the key behind", x.key(2, 0), 387420489 - 2);
        dueLeaf(x, 0, 0, 2, 1, 2, 1);
        dueLeaf(x, 1, 0, 2, 1, 2, 2);
        dueLeaf(x, 2, 0, 1, 1, 1, NONE);
    }

    private static void orderOfSides() {
        says(14, "SIDES in turn, from the first");
        // ((x - 8)^2 - 128)(x^3 - 2)
        TypesAtPrime x = grown(2, "x^5-16*x^4-64*x^3-2*x^2+32*x+128");
        dueText("spelling", spelled(x), "2.1+3.1");
        duePoints(x, 0, 7, 5, 1, 6, 4, 0);
        dueSide(x, 0, 0, 0, 2, 6, 1, 2, 3);
        dueSide(x, 0, 1, 2, 5, 1, 3, 1, 1);
        // with q = x - 8: (q^2 - 128)(q^3 + 24 q^2 + 192 q + 510)
        duePoints(x, 1, 8, 16, 7);
        dueSide(x, 1, 0, 0, 2, 1, 2, 1, 7);
        dueLeaf(x, 0, 0, 2, 1, 2, 1);
        dueLeaf(x, 1, 0, 3, 1, 3, 0);
    }

    private static void firstPoint() {
        says(16, "z of 2 or more: a LEAF LOST; z of 1: a LEAF EXACT; at once for z of 0");
        dueSpelling(3, "x^2-3", "2.1");
        TypesAtPrime x = grown(3, "x^2-3*x");
        dueText("z of 1", spelled(x), "1.1!+1.1");
        due("z", x.knot(0, 6), 1);
        duePoints(x, 0, NONE, 1, 0);
        dueLeaf(x, 0, 1, 1, 1, 1, 0);
        dueLeaf(x, 1, 0, 1, 1, 1, 0);
        x = grown(3, "x^3-3*x^2");
        dueText("z of 2", spelled(x), "???2+1.1");
        due("z", x.knot(0, 6), 2);
        dueLeaf(x, 0, 4, 0, 0, 2, 0);
        dueSide(x, 0, 0, 2, 3, 1, 1, 1, 1);
        dueSpelling(3, "x^8-3*x^7", "???7+1.1");
        says(16, "z of m, with one POINT: one CORNER, no SIDE");
        x = grown(3, "x^2");
        dueText("spelling", spelled(x), "???2");
        dueKnot(x, 0, 1, 2, 1, 0, 0, NONE, 2);
        duePoints(x, 0, NONE, NONE, 0);
        due("no side", x.side(0, 0, 0), NONE);
    }

    private static void firstPointOfLevelTwo() {
        says(16, "LEAF LOST of DEGREE z E; LEAF EXACT with RAMIFICATION E");
        // (x^2 - 3)^2
        TypesAtPrime x = grown(3, "x^4-6*x^2+9");
        dueText("lost", spelled(x), "???4");
        dueKnot(x, 1, 2, 2, 2, 0, 0, 0, 2);
        dueLeaf(x, 0, 4, 0, 0, 4, 1);
        // q^2 (q - 9) with q = x^2 - 3
        x = grown(3, "x^6-18*x^4+81*x^2-108");
        dueText("lost, then a side", spelled(x), "???4+2.1");
        dueKnot(x, 1, 2, 3, 2, 1, 2, 0, 2);
        duePoints(x, 1, NONE, NONE, 8, 6);
        dueSide(x, 1, 0, 2, 3, 2, 1, 1, 4);
        dueMonomial(x, 1, 0, 2);
        dueLeaf(x, 0, 4, 0, 0, 4, 1);
        x = grown(3, "x^6-27");
        dueLeaf(x, 0, 1, 2, 1, 2, 1);
        due("exact, then its sides", x.leaf(1, 4), 1);
    }

    private static void noPointAtAll() {
        says(16, "z is m, if there is none");
        // (x + 1)^8: keys x - 2, x - 8, x - 26, and then x - 80, x - 53, of which 3 to the 18 divides all that counts
        TypesAtPrime x = grown(3, "x^8+8*x^7+28*x^6+56*x^5+70*x^4+56*x^3+28*x^2+8*x+1");
        dueText("spelling", spelled(x), "???3+???2+???3");
        due("knots", x.tree(0), 5);
        duePoints(x, 0, 8, 7, 6, 5, 4, 3, 2, 1, 0);
        duePoints(x, 1, 16, 15, 14, 13, 12, 11, 10, 9, 8);
        duePoints(x, 2, NONE, NONE, NONE, 21, 20, 19, 18, 17, 16);
        dueResidual(x, 2, 0, 2, 1, 2, 1, 2, 1);
        duePoints(x, 3);
        dueKnot(x, 3, 4, 2, 1, 0, 0, 2, 2);
        due("x - 80", x.key(3, 0), 387420489 - 80);
        duePoints(x, 4, NONE, NONE, NONE, 24);
        dueKnot(x, 4, 4, 3, 1, 0, 0, 2, 3);
        due("x - 53", x.key(4, 0), 387420489 - 53);
        dueLeaf(x, 0, 4, 0, 0, 3, 2);
        dueLeaf(x, 1, 4, 0, 0, 2, 3);
        dueLeaf(x, 2, 4, 0, 0, 3, 4);
        x.sheet(0, 1, 10);
        due("spill", x.spill(3, 0, 0), 9);
        dueItems(x, 0, -1, -1, -1, -1, -1, -1, -1, -1, -1, 0);
    }

    private static void numbersAtTheLimit() {
        says(18, "VALUE of a NUMBER that isn't 0; 0 has none: p to the K is 0");
        // at 6 it is worth 7 to the 10
        TypesAtPrime x = grown(7, "x^8+989*x^7+78*x^6+35*x^5+21*x^4+7*x^2+21*x+7");
        due("worth", x.worth(0, 6), 282475249);
        dueText("spelling", spelled(x), "6.1+1.1!+1.1");
        duePoints(x, 1, NONE, 1, 0);
        due("z", x.knot(1, 6), 1);
        says(18, "p to the K - 1 is not");
        x = grown(7, "x^8+121*x^7+99*x^6+21*x^5+14*x^4+35*x^2+14*x+7");
        due("worth", x.worth(0, 6), 40353607);
        dueText("spelling", spelled(x), "6.1+1.1+1.1");
        duePoints(x, 1, 9, 1, 0);
        dueSide(x, 1, 0, 0, 1, 8, 1, 1, 8);
    }

    private static void cornersAndSides() {
        says(19, "CORNERS .. at which its direction changes");
        // 1, 2 and 3 lie on the line from 0 to 4: no corners; above it they are none, too
        due("on the line", grown(2, "x^4+2*x^3+4*x^2+8*x+16").knot(0, 3), 1);
        due("above the line", grown(2, "x^4+8*x^3+8*x^2+16*x+16").knot(0, 3), 1);
        TypesAtPrime x = grown(2, "x^4+2*x^3+8*x^2+128*x+2048");
        duePoints(x, 0, 11, 7, 3, 1, 0);
        due("below the line", x.knot(0, 3), 3);
        dueSide(x, 0, 0, 0, 2, 8, 1, 2, 4);
        dueSide(x, 0, 1, 2, 3, 2, 1, 1, 2);
        dueSide(x, 0, 2, 3, 4, 1, 1, 1, 1);
        due("no fourth", x.side(0, 3, 0), NONE);
        says(19, "RAMIFICATION e_r LENGTH by g");
        dueSide(grown(5, "x^8-5"), 0, 0, 0, 8, 1, 8, 1, 1);
        dueSide(grown(5, "x^8-25"), 0, 0, 0, 8, 2, 4, 2, 1);
        dueSide(grown(5, "x^6-625"), 0, 0, 0, 6, 4, 3, 2, 2);
        dueSide(grown(2, "x^8-256"), 0, 0, 0, 8, 8, 1, 8, 1);
    }

    private static void residualHoles() {
        says(20, "in front of y^k 0, if there is no POINT at i + k e_r");
        TypesAtPrime x = grown(2, "x^4+4*x^2+8*x+16");
        duePoints(x, 0, 4, 3, 2, NONE, 0);
        dueResidual(x, 0, 0, 1, 1, 1, 0, 1);
        says(20, "or it lies above the SIDE");
        x = grown(3, "x^2+9*x-9");
        duePoints(x, 0, 2, 2, 0);
        dueResidual(x, 0, 0, 2, 0, 1);
        // on the side at 1: y^2 + y - 1, which has no root
        x = grown(3, "x^2+3*x-9");
        dueResidual(x, 0, 0, 2, 1, 1);
        dueText("spelling", spelled(x), "1.2");
        // (1, 1) lies between the steps of e_r and tells nothing
        x = grown(3, "x^4+3*x+9");
        duePoints(x, 0, 2, 1, NONE, NONE, 0);
        due("two sides", x.knot(0, 3), 2);
        x = grown(3, "x^4+9*x^3+9*x+9");
        dueResidual(x, 0, 0, 1, 0, 1);
        says(20, "of degree g, 8 at most");
        dueResidual(grown(2, "x^8+256"), 0, 0, 1, 0, 0, 0, 0, 0, 0, 0, 1);
    }

    private static void residualOfRoots() {
        says(20, "y less c, that divides it m' times (2 or more), a KNOT of level r + 1 with MANIFOLD m'");
        // (x - 5)^2 (x - 10): y - 2 is y + 3 and comes ahead of y - 1
        TypesAtPrime x = grown(5, "x^3-20*x^2+125*x-250");
        dueText("once and twice", spelled(x), "1.1+???2");
        dueResidual(x, 0, 0, 3, 0, 1, 1);
        dueKnot(x, 1, 2, 2, 1, 0, 0, 0, 2);
        due("x - 5", x.key(1, 0), 244140625 - 5);
        due("no other knot", x.tree(0), 2);
    }

    private static void headOfAPart() {
        says(18, "its HEAD: of these the MONOMIAL of least VALUE; its RESIDUE: of the NUMBER by p^s");
        // q^2 and a part, with q = x^2 - 3: 9 x has the VALUE 5/2, 27 has 3, 27 x has 7/2
        TypesAtPrime x = grown(3, "x^4-6*x^2+9*x+36");
        dueText("9 x and 27", spelled(x), "4.1");
        duePoints(x, 1, 5, NONE, 4);
        dueSide(x, 1, 0, 0, 2, 1, 2, 1, 5);
        x = grown(3, "x^4-6*x^2+27*x+36");
        dueText("27 x and 27", spelled(x), "2.2");
        duePoints(x, 1, 6, NONE, 4);
        dueMonomial(x, 1, 0, 1, 1);
        dueResidual(x, 1, 0, 1, 0, 1);
        x = grown(3, "x^4-6*x^2+27*x+63");
        dueText("27 x and 54", spelled(x), "2.1+2.1");
        dueResidual(x, 1, 0, 2, 0, 1);
        // 3 x q and 9 q: 3 x has the VALUE 3/2, 9 has 2
        x = grown(3, "x^4+3*x^3+3*x^2-9*x-18+54");
        duePoints(x, 1, 6, 5, 4);
        dueResidual(x, 1, 0, 2, 1, 1);
        dueText("3 x q, 9 q and 54", spelled(x), "2.2");
        // (q^2 and 27 x and 54)(x - 1): in front of q^2 stands x - 1, whose HEAD is -1
        x = grown(3, "x^5-x^4-6*x^3+33*x^2+36*x-63");
        dueText("x - 1", spelled(x), "2.1+2.1+1.1");
        duePoints(x, 1, 6, 8, 4);
        dueResidual(x, 1, 0, 1, 0, 2);
        says(18, "a sum of NUMBERS times q_1^(t_1) .. q_(r-1)^(t_(r-1))");
        // the third one above with x - 1 for x: its part is 27 x and 27, but 27 (x - 1) and 54
        x = grown(3, "x^4-4*x^3+35*x+31");
        dueText("27 (x - 1) and 54", spelled(x), "2.1+2.1");
        duePoints(x, 1, 6, NONE, 4);
        dueResidual(x, 1, 0, 2, 0, 1);
    }

    private static void keysOfKeys() {
        says(17, "the KEY q_r^(e_r) less c times P_r (as a polynomial, in NUMBERS)");
        // (q^2 - 9 x)^2 with q = x^2 - 3
        TypesAtPrime x = grown(3, "x^8-12*x^6-18*x^5+54*x^4+108*x^3-27*x^2-162*x+81");
        dueText("spelling", spelled(x), "???8");
        duePoints(x, 1, 10, 10, 9, NONE, 8);
        dueMonomial(x, 1, 0, 2, 1);
        long[] key = {9, 387420489 - 9, 387420489 - 6, 0, 1, 0, 0, 0, 0};
        for (int k = 0; k <= 8; k++) due("key at " + k, x.key(2, k), key[k]);
        dueKnot(x, 2, 3, 2, 4, 0, 0, 1, 2);
        dueLeaf(x, 0, 4, 0, 0, 8, 2);
        // q^2 and 3 x q and 54 with q = x^2 - 6, for which c_1 is 2; then q - 3 x
        x = grown(3, "x^4+3*x^3-12*x^2-18*x+90");
        dueText("spelling", spelled(x), "4.1");
        duePoints(x, 1, 6, 5, 4);
        dueResidual(x, 1, 0, 2, 2, 2);
        key = new long[] {387420489 - 6, 387420489 - 3, 1, 0, 0, 0, 0, 0, 0};
        for (int k = 0; k <= 8; k++) due("key at " + k, x.key(2, k), key[k]);
        duePoints(x, 2, 7, 7, 6);
        dueSide(x, 2, 0, 0, 2, 1, 2, 1, 7);
    }

    private static void exponentsTooLarge() {
        says(20, "as long as t_k is e_k or more: e_k is taken off it, and it is multiplied by P_k and by the RESIDUE c_k");
        // with q = x^2 - 6, for which c_1 is 2: q^3 + 18 q^2 + 108 q + 243
        TypesAtPrime x = grown(3, "x^6+27");
        dueText("spelling", spelled(x), "2.1+2.1+2.1");
        dueResidual(x, 0, 0, 1, 0, 0, 1);
        due("x^2 - 6", x.key(1, 0), 387420489 - 6);
        duePoints(x, 1, 10, 8, 8, 6);
        dueSide(x, 1, 0, 0, 1, 2, 1, 1, 4);
        dueMonomial(x, 1, 0, 2);
        dueResidual(x, 1, 0, 1, 1);
        dueSide(x, 1, 1, 1, 3, 2, 1, 2, 3);
        dueMonomial(x, 1, 1, 1, 1);
        // the square of 3 x is 9 x^2, and that 27 and the residue 2
        dueResidual(x, 1, 1, 1, 0, 2);
        // through two levels: q^2 and 243 x with q = (x^2 - 6)^2 - 9 x, for which c_1 is 2 and c_2 is 1
        x = grown(3, "x^8-24*x^6-18*x^5+216*x^4+216*x^3-783*x^2-405*x+1296");
        dueText("spelling", spelled(x), "4.1+4.1");
        duePoints(x, 2, 22, NONE, 20);
        dueSide(x, 2, 0, 0, 2, 2, 1, 2, 11);
        dueMonomial(x, 2, 0, 1, 1, 1);
        // the square of 3 x (x^2 - 6) is 9 x^2 times 9 x, and that 243 x and the residue 2
        dueResidual(x, 2, 0, 1, 0, 2);
        due("12, 2 and 1", x.tree(2), 15);
    }

    private static void hardBelowAKnot() {
        says(22, "a LEAF HARD of DEGREE its degree times m' times E e_r");
        // (x^4 + 2 x^2 + 4)^2
        TypesAtPrime x = grown(2, "x^8+4*x^6+12*x^4+16*x^2+16");
        duePoints(x, 0, 4, NONE, 4, NONE, 2, NONE, 2, NONE, 0);
        dueSide(x, 0, 0, 0, 8, 4, 2, 4, 1);
        dueResidual(x, 0, 0, 1, 0, 1, 0, 1);
        dueLeaf(x, 0, 2, 0, 0, 8, 0);
        dueText("spelling", spelled(x), "?8");
        // (x^2 + 2 x + 4)^2
        dueLeaf(grown(2, "x^4+4*x^3+12*x^2+16*x+16"), 0, 2, 0, 0, 4, 0);
    }

    private static void deepestLevel() {
        says(16, "unless r is 6: what is simple at level 6 is told");
        // (x - 63)^2 less 2 to the 13
        TypesAtPrime x = grown(2, "x^2-126*x-4223");
        dueText("spelling", spelled(x), "2.1");
        due("levels", x.tree(5), 6);
        for (int i = 0; i < 6; i++) {
            due("level", x.knot(i, 0), i + 1);
            due("above", x.knot(i, 5), i == 0 ? NONE : i - 1);
            due("key", x.key(i, 0), (1L << 28) - (2L << i) + 1);
        }
        duePoints(x, 5, 13, NONE, 10);
        dueSide(x, 5, 0, 0, 2, 3, 2, 1, 13);
        dueLeaf(x, 0, 0, 2, 1, 2, 5);
        // (x - 63)(x - 127)
        x = grown(2, "x^2-190*x+8001");
        dueText("spelling", spelled(x), "1.1!+1.1");
        duePoints(x, 5, NONE, 11, 10);
        dueLeaf(x, 0, 1, 1, 1, 1, 5);
        dueLeaf(x, 1, 0, 1, 1, 1, 5);
        // (x - 63)^2
        x = grown(2, "x^2-126*x+3969");
        dueText("spelling", spelled(x), "???2");
        dueLeaf(x, 0, 4, 0, 0, 2, 5);
    }

    private static void deepLeaves() {
        says(22, "then a LEAF DEEP of DEGREE m' E e_r");
        TypesAtPrime x = grown(2, "x^2+2*x+1");
        due("knots", x.tree(0), 6);
        dueLeaf(x, 0, 3, 0, 0, 2, 5);
        dueText("spelling", spelled(x), "??2");
        // (x^4 + 8)^2
        x = grown(2, "x^8+16*x^4+64");
        due("knots", x.tree(0), 6);
        dueKnot(x, 0, 1, 8, 1, 1, 18, NONE, 0);
        dueSide(x, 0, 0, 0, 8, 6, 4, 2, 3);
        for (int i = 1; i < 6; i++) {
            due("degree of the key", x.knot(i, 2), 4);
            due("manifold", x.knot(i, 1), 2);
            duePoints(x, i, 4 * (2 * i + 6), 4 * (2 * i + 6), 4 * (2 * i + 4));
        }
        dueLeaf(x, 0, 3, 0, 0, 8, 5);
        dueText("spelling", spelled(x), "??8");
    }

    private static void dueIndex(int p, String text, int want) {
        due("index of " + text + " at " + p, grown(p, text).tree(2), want);
        due("of its knot", grown(p, text).knot(0, 4), want);
    }

    private static void index() {
        says(16, "INDEX: i from 1 on and below where the last CORNER is");
        dueIndex(3, "x^2-3", 0);
        says(16, "on or below the border there (a SIDE, or a CORNER)");
        dueIndex(3, "x^2-9", 1);
        dueIndex(3, "x^2-27", 1);
        dueIndex(3, "x^4-27", 3);
        dueIndex(3, "x^2-3*x+27", 1);
        dueIndex(3, "x^2-9*x+243", 2);
        due("the largest triangle", grown(2, "x^8-256").knot(0, 4), 28);
        says(16, "no border ahead of the first CORNER");
        dueIndex(3, "x^2-27*x", 3);
        dueIndex(3, "x^3-27*x^2", 3);
        due("from (1, 3) to (4, 0)", grown(3, "x^4-27*x").knot(0, 4), 6);
        due("from (1, 9) to (4, 0)", grown(2, "x^4-512*x").knot(0, 4), 18);
        dueIndex(3, "x^2", 0);
        says(16, "y above the w of the last CORNER");
        TypesAtPrime x = grown(3, "x^6-27");
        duePoints(x, 1, NONE, 8, 8, 6);
        due("below (1, 8) and (3, 6)", x.knot(1, 4), 3);
        says(15, "INDEX of THE TREE: those of all KNOTS together");
        due("6 and 3", x.tree(2), 9);
        due("no knots", grown(3, "x").tree(2), 0);
    }

    private static void fullTree() {
        says(15, "as many KNOTS and LEAVES as there may be");
        // ((x + 1)(x + 2)(x + 3)(x + 4))^2: four roots, six levels each
        TypesAtPrime x = grown(5, "x^8+20*x^7+170*x^6+800*x^5+2273*x^4+3980*x^3+4180*x^2+2400*x+576");
        dueText("spelling", spelled(x), "1.1!+1.1+1.1!+1.1+1.1!+1.1+1.1!+1.1");
        int[] want = {24, 8, 24, 0, 1, 6, 35, 8};
        for (int what = 0; what < 8; what++) due("tree " + what, x.tree(what), want[what]);
        for (int i = 0; i < 24; i++) {
            due("level of " + i, x.knot(i, 0), i % 6 + 1);
            due("above " + i, x.knot(i, 5), i % 6 == 0 ? NONE : i - 1);
            due("side of " + i, x.side(i, 0, 1), 2);
        }
        due("no more", x.knot(24, 0), NONE);
        for (int i = 0; i < 8; i++) due("leaf " + i, x.leaf(i, 4), i / 2 * 6 + 5);
        due("no more", x.leaf(8, 0), NONE);
        // eight leaves without a knot need a prime of eight residues: seven are the most
        dueSpelling(7, "x^7-x", "1.1+1.1+1.1+1.1+1.1+1.1+1.1");
    }

    // ---- 15 to 23, what is told

    private static void treeTold() {
        says(15, "3 DEGREE of all LEAVES that aren't DECIDED or EXACT, together");
        due("none", grown(3, "x^2-3*x").tree(3), 0);
        due("lost", grown(3, "x^3-3*x^2").tree(3), 2);
        due("hard", grown(2, "x^8+x^4+1").tree(3), 8);
        due("deep", grown(2, "x^2+2*x+1").tree(3), 2);
        due("several", grown(3, "x^8+8*x^7+28*x^6+56*x^5+70*x^4+56*x^3+28*x^2+8*x+1").tree(3), 8);
        says(15, "4 the greatest RAMIFICATION of a LEAF that is DECIDED or EXACT (0: there is none)");
        due("none", grown(2, "x^8+16*x^4+64").tree(4), 0);
        due("decided", grown(2, "x^5-16*x^4-64*x^3-2*x^2+32*x+128").tree(4), 3);
        due("exact", grown(3, "x^6-27").tree(4), 2);
        due("one leaf", grown(5, "x^8-5").tree(4), 8);
        // x (x^2 + 2 x + 4)^2
        due("exact alone", grown(2, "x^5+4*x^4+12*x^3+16*x^2+16*x").tree(4), 1);
        says(15, "5 the greatest level of a KNOT (0: there is none)");
        due("none", grown(3, "x").tree(5), 0);
        due("one knot", grown(3, "x^2-3").tree(5), 1);
        due("not the last one's", grown(3, "x^5-11*x^4+17*x^3+59*x^2-84*x+18").tree(5), 2);
        says(15, "BAD; NONE: there is no TREE");
        TypesAtPrime x = grown(3, "x"), none = new TypesAtPrime();
        for (int what : new int[] {MIN, -1, 8, MAX}) {
            due("what " + what, x.tree(what), BAD);
            due("without a tree " + what, none.tree(what), BAD);
        }
        for (int what = 0; what < 8; what++) due("without a tree " + what, none.tree(what), NONE);
    }

    private static void knotTold() {
        says(16, "5 the KNOT above it (NONE: level 1)");
        TypesAtPrime x = grown(3, "x^6-27");
        due("level 1", x.knot(0, 5), NONE);
        due("level 2", x.knot(1, 5), 0);
        says(16, "BAD: what; NONE: there is no such KNOT");
        for (int what : new int[] {MIN, -1, 7, MAX}) {
            due("what " + what, x.knot(0, what), BAD);
            due("named first", x.knot(2, what), BAD);
        }
        for (int i : new int[] {MIN, -1, 2, 24, MAX}) for (int what = 0; what < 7; what++) due("knot " + i, x.knot(i, what), NONE);
        due("without a tree", new TypesAtPrime().knot(0, 0), NONE);
        due("without a knot", grown(3, "x").knot(0, 0), NONE);
    }

    private static void keyTold() {
        says(17, "(k 0 .. 8). NO.");
        TypesAtPrime x = grown(2, "x^8+16*x^4+64");
        due("x^4", x.key(1, 4), 1);
        due("x^8", x.key(1, 8), 0);
        for (int k : NO_POWERS) due("k " + k, x.key(1, k), NO);
        for (int i : new int[] {MIN, -1, 6, MAX}) due("knot " + i, x.key(i, 0), NO);
        due("without a tree", new TypesAtPrime().key(0, 0), NO);
    }

    private static void pointTold() {
        says(18, "BAD: k; NONE: there is no such KNOT, no such POINT");
        TypesAtPrime x = grown(2, "x^8+16*x^4+64");
        due("the last", x.point(0, 8), 0);
        due("no point", x.point(0, 1), NONE);
        due("behind m", x.point(1, 3), NONE);
        due("behind m", x.point(1, 8), NONE);
        for (int k : NO_POWERS) {
            due("k " + k, x.point(0, k), BAD);
            due("named first", x.point(6, k), BAD);
        }
        for (int i : new int[] {MIN, -1, 6, MAX}) due("knot " + i, x.point(i, 0), NONE);
        // x^2 - 3 and x - 1: m is 2, and the part behind it is 1
        due("behind m, though the part isn't 0", grown(3, "x^3-x^2-3*x+3").point(0, 3), NONE);
    }

    private static void sideTold() {
        says(19, "BAD: what; NONE: there is no such KNOT, no such SIDE");
        TypesAtPrime x = grown(3, "x^6+27");
        for (int what : new int[] {MIN, -1, 6, MAX}) {
            due("what " + what, x.side(0, 0, what), BAD);
            due("named first", x.side(2, 2, what), BAD);
        }
        for (int what = 0; what < 6; what++) {
            for (int i : new int[] {MIN, -1, 2, MAX}) due("knot " + i, x.side(i, 0, what), NONE);
            for (int j : new int[] {MIN, -1, 2, MAX}) due("side " + j, x.side(1, j, what), NONE);
            due("a side of the next knot", x.side(0, 1, what), NONE);
        }
    }

    private static void residualTold() {
        says(20, "BAD: k; NONE: there is no such KNOT, no such SIDE");
        TypesAtPrime x = grown(3, "x^6+27");
        for (int k : NO_POWERS) {
            due("k " + k, x.residual(0, 0, k), BAD);
            due("named first", x.residual(2, 2, k), BAD);
        }
        for (int i : new int[] {MIN, -1, 2, MAX}) due("knot " + i, x.residual(i, 0, 0), NONE);
        for (int j : new int[] {MIN, -1, 2, MAX}) due("side " + j, x.residual(1, j, 0), NONE);
        due("a side of the next knot", x.residual(0, 1, 0), NONE);
        due("y^8 of a lesser one", x.residual(1, 1, 8), 0);
    }

    private static void monomialTold() {
        says(21, "1 .. 6 t_what (0, where there is none such)");
        TypesAtPrime x = grown(3, "x^6+27");
        dueMonomial(x, 0, 0, 1);
        dueMonomial(x, 1, 1, 1, 1);
        says(21, "BAD: what; NONE: there is no such KNOT, no such SIDE");
        for (int what : new int[] {MIN, -1, 7, MAX}) {
            due("what " + what, x.monomial(0, 0, what), BAD);
            due("named first", x.monomial(2, 2, what), BAD);
        }
        for (int i : new int[] {MIN, -1, 2, MAX}) due("knot " + i, x.monomial(i, 0, 0), NONE);
        for (int j : new int[] {MIN, -1, 2, MAX}) due("side " + j, x.monomial(1, j, 6), NONE);
        due("a side of the next knot", x.monomial(0, 1, 0), NONE);
    }

    private static void leafTold() {
        says(22, "RAMIFICATION, RESIDUE DEGREE (both 0 of kinds 2 to 4); 4 the KNOT that made it (NONE: level 0)");
        dueLeaf(grown(2, "x^8+x^4+1"), 0, 2, 0, 0, 8, NONE);
        dueLeaf(grown(2, "x^2+2*x+1"), 0, 3, 0, 0, 2, 5);
        dueLeaf(grown(3, "x^2"), 0, 4, 0, 0, 2, 0);
        says(22, "BAD: what; NONE: there is no such LEAF");
        TypesAtPrime x = grown(3, "x^6-27");
        for (int what : new int[] {MIN, -1, 5, MAX}) {
            due("what " + what, x.leaf(0, what), BAD);
            due("named first", x.leaf(2, what), BAD);
        }
        for (int i : new int[] {MIN, -1, 2, 8, MAX}) for (int what = 0; what < 5; what++) due("leaf " + i, x.leaf(i, what), NONE);
        due("without a tree", new TypesAtPrime().leaf(0, 0), NONE);
    }

    private static void spellingTold() {
        says(23, "a full stop; ! behind (EXACT); ? (HARD), ?? (DEEP), ??? (LOST); a + between");
        // x^2 (x - 1)(x - 3): lost, exact and decided make one text
        dueSpelling(3, "x^4-4*x^3+3*x^2", "???2+1.1+1.1");
        dueSpelling(2, "x^6+x^5+x^3+x+1", "?6");
        says(23, "NONE: there is no TREE, no such byte");
        TypesAtPrime x = grown(3, "x^6-27");
        due("the first", x.spelling(0), '2');
        due("the last", x.spelling(7), '2');
        for (int i : new int[] {MIN, -1, 8, 79, 80, MAX}) due("byte " + i, x.spelling(i), NONE);
        due("without a tree", new TypesAtPrime().spelling(0), NONE);
        // a longer one that stood before is not to be seen
        read(x, 1, "x");
        x.grow(1);
        due("the last", x.spelling(2), '1');
        due("no more", x.spelling(3), NONE);
    }

    // ---- 24

    private static void askedWords() {
        says(24, "as tree() does for what 0 .. 7; prime: THE PRIME");
        TypesAtPrime x = grown(3, "x^8+8*x^7+28*x^6+56*x^5+70*x^4+56*x^3+28*x^2+8*x+1");
        for (int what = 0; what < 8; what++) due(WORDS[what], asked(x, WORDS[what]), x.tree(what));
        due("prime", asked(x, "prime"), 3);
        says(24, "NOT: it is another word");
        TypesAtPrime none = new TypesAtPrime();
        for (String word : new String[] {"", "k", "knot", "knotss", " knots", "knots ", "Knots", "KNOTS", "leave", "indeX", "opens", "wil", "level", "sizes", "degre", "primes", "prim",
                "knots\0", "\0", "0", "x", "knotsleaves", "tree", "index+open"}) {
            due(word, asked(x, word), NOT);
            due("tape", x.count(2), 0);
            due("named first " + word, asked(none, word), NOT);
            due("tape", none.count(2), 0);
        }
        StringBuilder longest = new StringBuilder("knots");
        while (longest.length() < 80) longest.append('s');
        due("80 bytes", asked(x, longest.toString()), NOT);
        // what an earlier word left behind it does not count
        feed(x, "knots");
        x.wipe();
        due("shorter", asked(x, "knot"), NOT);
        says(24, "NONE: there is no TREE (not for prime)");
        for (String word : WORDS) due(word, asked(none, word), NONE);
        due("prime", asked(none, "prime"), 3);
        none.prime(7);
        due("prime", asked(none, "prime"), 7);
    }

    private static void askedEmptiesTheTape() {
        says(24, "THE TAPE, which is empty then");
        TypesAtPrime x = grown(3, "x^6-27"), none = new TypesAtPrime();
        for (String word : new String[] {"knots", "prime", "size", "other"}) {
            asked(x, word);
            due("tape after " + word, x.count(2), 0);
            asked(none, word);
            due("tape after " + word + ", no tree", none.count(2), 0);
        }
        due("the next word is alone", asked(x, "degree"), 6);
    }
}
