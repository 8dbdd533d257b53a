import java.math.BigInteger;

/** The boundary cases that the document names for a new object and for polynomials, sentence by sentence (promises 1 to 13). */
public final class PolynomialEdgesTest extends Checks {
    private static final int[] PRIMES = {2, 3, 5, 7}, LIMITS = {28, 18, 12, 10};
    private static final int[] NO_SLOTS = {MIN, -1, 5, MAX}, NO_POWERS = {MIN, -1, 9, MAX};

    public static void main(String[] args) {
        newObject();
        primesThatAre();
        primesThatAreNot();
        primeEndsTheTree();
        bytesOfTheTape();
        fullTape();
        wipe();
        textStartsAndSigns();
        textNumbers();
        textPowers();
        textHasNoBlanks();
        textEndsTooEarly();
        textAsLongAsTheTape();
        textCoefficients();
        textOfNought();
        textEmptiesTheTape();
        textRefused();
        set();
        at();
        degree();
        monic();
        toldRefused();
        mixCoefficients();
        mixIntoItself();
        mixRefused();
        timesDegree();
        timesCoefficients();
        timesRefused();
        worthJustALong();
        worthProducts();
        worthSums();
        worthRefused();
        numbersWrapRound();
        expansionPlaces();
        expansionOfLittle();
        expansionRefused();
        factorsNone();
        factorsOnceAndOften();
        factorsInOrder();
        factorPlaces();
        factorRefused();
        end("polynomials keep to their edges");
    }

    // ---- 1 to 4

    private static void newObject() {
        TypesAtPrime x = new TypesAtPrime();
        says(1, "As told at first: 3 at first");
        due("count 0", x.count(0), 3);
        due("count 1", x.count(1), 18);
        TypesAtPrime untold = new TypesAtPrime();
        read(untold, 0, "x-1");
        read(untold, 1, "x");
        due("a NUMBER", untold.expansion(0, 1, 0, 0), 387420488);
        says(1, "all 0 at first");
        for (int slot = 0; slot < 5; slot++) dueRow("slot " + slot, row(x, slot), 0, 0, 0, 0, 0, 0, 0, 0, 0);
        due("count 3", x.count(3), 0);
        says(1, "THE TREE (none at first)");
        due("count 5", x.count(5), 0);
        due("tree", x.tree(0), NONE);
        due("knot", x.knot(0, 0), NONE);
        due("leaf", x.leaf(0, 0), NONE);
        due("spelling", x.spelling(0), NONE);
        says(1, "SHEETS .. missing (at first)");
        due("count 4", x.count(4), 0);
        for (int sheet = 0; sheet < 4; sheet++) due("cell", x.cell(sheet, 0, 1), NOTHING);
        says(1, "THE TAPE is empty");
        due("count 2", x.count(2), 0);
        due("wipe", x.wipe(), 0);
        due("text", x.text(0), -100);
        says(1, "nothing of one object is another one's");
        TypesAtPrime used = grown(7, "x^8");
        used.sheet(0, 1, 40);
        used.feed('x');
        TypesAtPrime fresh = new TypesAtPrime();
        int[] counts = {3, 18, 0, 0, 0, 0};
        for (int what = 0; what < 6; what++) due("count " + what, fresh.count(what), counts[what]);
    }

    private static void primesThatAre() {
        says(2, "p is 2, 3, 5 or 7; LIMIT K is 28, 18, 12, 10 of these");
        TypesAtPrime x = new TypesAtPrime();
        int was = 3;
        for (int turn = 0; turn < 2; turn++) {
            for (int i = 0; i < 4; i++) {
                due("prime " + PRIMES[i], x.prime(PRIMES[i]), was);
                due("p", x.count(0), PRIMES[i]);
                due("K", x.count(1), LIMITS[i]);
                was = PRIMES[i];
            }
        }
    }

    private static void primesThatAreNot() {
        says(2, "BAD");
        TypesAtPrime x = grown(5, "x^2-5");
        for (int p : new int[] {MIN, -7, -5, -3, -2, -1, 0, 1, 4, 6, 8, 9, 10, 11, 13, 257, 259, 65537, MAX}) {
            due("prime " + p, x.prime(p), BAD);
            due("p stays", x.count(0), 5);
            due("K stays", x.count(1), 12);
            due("the tree stays", x.tree(1), 1);
        }
    }

    private static void primeEndsTheTree() {
        says(2, "THE TREE is none then");
        TypesAtPrime x = grown(5, "x^2-5");
        x.sheet(1, 0, 3);
        x.feed('7');
        due("the same prime", x.prime(5), 5);
        due("no tree", x.count(5), 0);
        due("tree", x.tree(0), NONE);
        due("knot", x.knot(0, 0), NONE);
        due("key", x.key(0, 0), NO);
        due("point", x.point(0, 0), NONE);
        due("side", x.side(0, 0, 0), NONE);
        due("residual", x.residual(0, 0, 0), NONE);
        due("monomial", x.monomial(0, 0, 0), NONE);
        due("leaf", x.leaf(0, 0), NONE);
        due("spelling", x.spelling(0), NONE);
        due("spill", x.spill(0, 1, 0), NONE);
        says(2, "nothing else changes");
        due("slot", x.at(0, 0), -5);
        due("tape", x.count(2), 1);
        due("sheet", x.item(1, 2), 0);
    }

    private static void bytesOfTheTape() {
        says(3, "A byte (0 .. 127)");
        TypesAtPrime x = new TypesAtPrime();
        due("feed 0", x.feed(0), 1);
        due("feed 127", x.feed(127), 2);
        for (int letter : new int[] {-1, 128, 256 + 'x', 65536 + 'x', -128, MIN, MAX}) {
            due("feed " + letter, x.feed(letter), BAD);
            due("how many", x.count(2), 2);
        }
        for (int letter = 0; letter < 128; letter++) {
            x.wipe();
            due("feed " + letter, x.feed(letter), 1);
            // all alone only a digit or x tells a polynomial
            boolean text = letter >= '0' && letter <= '9' || letter == 'x';
            due("as text " + letter, x.text(1), letter == '0' ? -10 : letter == 'x' ? 1 : text ? 0 : letter == '-' ? -101 : -100);
        }
    }

    private static void fullTape() {
        says(3, "THE TAPE (80 bytes at most): FULL");
        TypesAtPrime x = new TypesAtPrime();
        feed(x, "11*x");
        for (int n = 0; n < 18; n++) feed(x, "+1*x");
        feed(x, "+1*");
        due("the last one", x.feed('x'), 80);
        due("one more", x.feed('x'), FULL);
        due("and again", x.feed(0), FULL);
        due("how many", x.count(2), 80);
        says(3, "of several the one that is named first: BAD; FULL");
        due("no byte", x.feed(128), BAD);
        due("no byte", x.feed(-1), BAD);
        says(3, "A call that refuses changes nothing");
        due("what the 80 tell", x.text(0), 1);
        due("11 and 19", x.at(0, 1), 30);
        due("there is room again", x.feed('x'), 1);
    }

    private static void wipe() {
        says(4, "THE TAPE is empty: how many bytes it had");
        TypesAtPrime x = new TypesAtPrime();
        due("of none", x.wipe(), 0);
        x.feed('x');
        due("of one", x.wipe(), 1);
        due("then of none", x.wipe(), 0);
        for (int n = 0; n < 81; n++) x.feed('x');
        due("of a full one", x.wipe(), 80);
        due("feed", x.feed('2'), 1);
        due("nothing of it is left", x.text(0), 0);
        due("2", x.at(0, 0), 2);
    }

    // ---- 5

    /** Each text with its FAULT. */
    private static void dueFaults(Object... textsAndFaults) {
        for (int i = 0; i + 1 < textsAndFaults.length; i += 2) {
            TypesAtPrime x = new TypesAtPrime();
            x.set(2, 3, 17);
            String text = (String) textsAndFaults[i];
            due("text " + text, read(x, 2, text), -100 - (Integer) textsAndFaults[i + 1]);
            dueRow("kept after " + text, row(x, 2), 0, 0, 0, 17, 0, 0, 0, 0, 0);
            due("tape after " + text, x.count(2), 0);
        }
    }

    /** A text with its DEGREE and all its coefficients. */
    private static void dueRead(String text, int degree, long... coefficients) {
        TypesAtPrime x = new TypesAtPrime();
        for (int k = 0; k < 9; k++) x.set(4, k, 77);
        due("text " + text, read(x, 4, text), degree);
        long[] all = new long[9];
        System.arraycopy(coefficients, 0, all, 0, coefficients.length);
        dueRow(text, row(x, 4), all);
        due("tape after " + text, x.count(2), 0);
    }

    private static void textStartsAndSigns() {
        says(5, "POLYNOMIAL: perhaps - , then TERM { + TERM or - TERM }");
        dueRead("x", 1, 0, 1);
        dueRead("-x", 1, 0, -1);
        dueRead("-7", 0, -7);
        dueRead("1-2+3-4", 0, -2);
        dueRead("x+x-3*x", 1, 0, -1);
        dueRead("-x^8+x^7-x^6+x^5-x^4+x^3-x^2+x-1", 8, -1, 1, -1, 1, -1, 1, -1, 1, -1);
        dueFaults("+x", 0, "+", 0, "--x", 1, "-+x", 1, "x++x", 2, "x+-x", 2, "x-+x", 2, "x--1", 2, "*x", 0, "^2", 0, "-*x", 1, "-^", 1);
    }

    private static void textNumbers() {
        says(5, "NUMBER: 1 to 4 digits");
        dueRead("1", 0, 1);
        dueRead("9999", 0, 9999);
        dueRead("0009", 0, 9);
        dueRead("0001*x^8", 8, 0, 0, 0, 0, 0, 0, 0, 0, 1);
        dueFaults("00000", 4, "10000", 4, "12345*x", 4, "x+99999", 6, "-12345", 5);
        says(5, "TERM: NUMBER, perhaps * and POWER; or POWER");
        dueRead("3*x", 1, 0, 3);
        dueRead("3*x^2", 2, 0, 0, 3);
        dueFaults("3x", 1, "3*3", 2, "3*-x", 2, "3**x", 2, "3^2", 1, "x*3", 1, "x3", 1, "xx", 1, "x*x", 1, "3*x*x", 3, "1234x", 4, "3*+x", 2);
    }

    private static void textPowers() {
        says(5, "POWER: x, perhaps ^ and a digit 0 .. 8");
        for (int k = 0; k <= 8; k++) {
            long[] all = new long[9];
            all[k] = 1;
            dueRead("x^" + k, k, all);
        }
        dueRead("5*x^0", 0, 5);
        dueFaults("x^9", 2, "x^:", 2, "x^/", 2, "x^x", 2, "x^-1", 2, "x^^2", 2, "x^00", 3, "x^10", 3, "x^88", 3, "x^2^2", 3, "x^2x", 3, "3*x^9", 4);
    }

    private static void textHasNoBlanks() {
        says(5, "No blanks");
        dueFaults(" ", 0, " x", 0, "x ", 1, "x +1", 1, "x+ 1", 2, "3 *x", 1, "3* x", 2, "x ^2", 1, "x^ 2", 2, "- x", 1, "1 2", 1, "x\t", 1, "x\n", 1, "x\0", 1);
        says(5, "the first byte with which no TEXT can go on");
        dueFaults("X", 0, "x^2+y", 4, "x,y", 1, "(x)", 0, "1.5", 1, "x=0", 1, "\u007f", 0, "1+2+3+a+b", 6);
    }

    private static void textEndsTooEarly() {
        says(5, "the text's size, if it ends too early");
        dueFaults("", 0, "-", 1, "x+", 2, "x-", 2, "3*", 2, "-3*", 3, "x^", 2, "3*x^", 4, "x^2+", 4, "1+2-", 4, "9999*", 5);
    }

    private static String ones(int many) {
        StringBuilder b = new StringBuilder("1");
        for (int n = 1; n < many; n++) b.append("+1");
        return b.toString();
    }

    private static void textAsLongAsTheTape() {
        says(5, "A TEXT is read from THE TAPE (80 bytes at most)");
        dueRead(ones(40), 0, 40);
        dueRead("-" + ones(40), 0, 38);
        dueFaults(ones(40) + "+", 80, ones(40) + "x", 79, ones(39) + "+1*", 80, ones(39) + "+x^", 80, "-" + ones(38) + "+x^9", 79);
        says(5, "what comes behind the 80 is not on THE TAPE");
        TypesAtPrime x = new TypesAtPrime();
        due("79 and a sign", read(x, 0, ones(40) + "+1+1"), -180);
        due("80", read(x, 0, "-" + ones(40) + "+1+1"), 0);
        due("38", x.at(0, 0), 38);
    }

    private static void textCoefficients() {
        says(5, "NOT: a coefficient is not -9999 .. 9999");
        dueRead("9999*x^8-9999", 8, -9999, 0, 0, 0, 0, 0, 0, 0, 9999);
        dueRead("5000*x^3+4999*x^3", 3, 0, 0, 0, 9999);
        dueRead("-5000*x^3-4999*x^3", 3, 0, 0, 0, -9999);
        dueRead("9999+9999-9999-1", 0, 9998);
        TypesAtPrime x = new TypesAtPrime();
        x.set(0, 2, 5);
        for (int k = 0; k <= 8; k++) {
            due("10000 at " + k, read(x, 0, "9999*x^" + k + "+x^" + k), NOT);
            due("tape", x.count(2), 0);
            due("-10000 at " + k, read(x, 0, "-x^" + k + "-9999*x^" + k), NOT);
        }
        due("10000", read(x, 0, "9999+1"), NOT);
        due("with x^0", read(x, 0, "9999+1*x^0"), NOT);
        due("with x and x^1", read(x, 0, "9999*x+x^1"), NOT);
        // 65536 less 9999 and more: as a short it would look small
        due("far too large", read(x, 0, "9999+9999+9999+9999+9999+9999+9999+9999"), NOT);
        dueRow("kept", row(x, 0), 0, 0, 5, 0, 0, 0, 0, 0, 0);
        says(5, "of several the one that is named first: the FAULT; NOT");
        due("a fault behind it", read(x, 0, "9999+1+"), -107);
        due("a fault behind it", read(x, 0, "9999+9999*"), -110);
    }

    private static void textOfNought() {
        says(5, "(DEGREE of 0 is told as -10.)");
        dueRead("0", -10);
        dueRead("-0", -10);
        dueRead("0000*x^8", -10);
        dueRead("x^3-x^3", -10);
        dueRead("0+1", 0, 1);
        dueRead("x^8-x^8+x", 1, 0, 1);
    }

    private static void textEmptiesTheTape() {
        says(5, "THE TAPE, which is empty then");
        TypesAtPrime x = new TypesAtPrime();
        due("text", read(x, 0, "x^2"), 2);
        due("how many", x.count(2), 0);
        due("empty", x.text(0), -100);
        dueRow("kept", row(x, 0), 0, 0, 1, 0, 0, 0, 0, 0, 0);
        due("shorter than the last", read(x, 0, "x"), 1);
    }

    private static void textRefused() {
        says(5, "BAD (THE TAPE stays)");
        TypesAtPrime x = new TypesAtPrime();
        feed(x, "x^2+5");
        for (int slot : NO_SLOTS) {
            due("text " + slot, x.text(slot), BAD);
            due("how many", x.count(2), 5);
        }
        due("it told the same", x.text(4), 2);
        due("5", x.at(4, 0), 5);
        says(5, "of several the one that is named first: BAD; the FAULT");
        feed(x, "+");
        due("text", x.text(5), BAD);
        due("stays", x.wipe(), 1);
        due("of an empty tape", x.text(-1), BAD);
        for (int slot = 0; slot < 5; slot++) due("slot " + slot, read(x, slot, "x"), 1);
    }

    // ---- 6 to 8

    private static void set() {
        says(6, "SLOTS 0 .. 4; x^0 .. x^8; -9999 .. 9999");
        TypesAtPrime x = new TypesAtPrime();
        for (int slot : new int[] {0, 4}) {
            for (int k : new int[] {0, 8}) {
                due("set", x.set(slot, k, -9999), 0);
                due("what it was", x.set(slot, k, 9999), -9999);
                due("what it was", x.set(slot, k, 0), 9999);
                due("what it was", x.set(slot, k, slot + k + 1), 0);
            }
        }
        says(6, "NO: slot, k, v is not -9999 .. 9999");
        for (int slot : NO_SLOTS) due("slot " + slot, x.set(slot, 0, 1), NO);
        for (int k : NO_POWERS) due("k " + k, x.set(4, k, 1), NO);
        for (int v : new int[] {MIN, -10000, 10000, 65536, MAX}) due("v " + v, x.set(4, 8, v), NO);
        dueRow("kept", row(x, 4), 5, 0, 0, 0, 0, 0, 0, 0, 13);
        dueRow("kept", row(x, 0), 1, 0, 0, 0, 0, 0, 0, 0, 9);
    }

    private static void at() {
        says(7, "The coefficient of x^k. NO.");
        TypesAtPrime x = new TypesAtPrime();
        x.set(0, 0, -9999);
        x.set(4, 8, 9999);
        due("the first", x.at(0, 0), -9999);
        due("the last", x.at(4, 8), 9999);
        for (int slot : NO_SLOTS) due("slot " + slot, x.at(slot, 0), NO);
        for (int k : NO_POWERS) due("k " + k, x.at(0, k), NO);
        // neighbours of the rows, if all of them lay in one
        due("k 9", x.at(3, 9), NO);
        due("k -1", x.at(1, -1), NO);
    }

    private static void degree() {
        says(8, "DEGREE: the greatest power whose coefficient isn't 0 (of 0: -10)");
        TypesAtPrime x = new TypesAtPrime();
        due("of 0", x.told(4, 0), -10);
        for (int k = 0; k <= 8; k++) {
            x.set(4, k, -1);
            due("up to " + k, x.told(4, 0), k);
        }
        for (int k = 8; k >= 0; k--) {
            x.set(4, k, 0);
            due("below " + k, x.told(4, 0), k == 0 ? -10 : k - 1);
        }
    }

    private static void monic() {
        says(8, "MONIC, if that coefficient is 1 and DEGREE 1 or more");
        TypesAtPrime x = new TypesAtPrime();
        due("0", x.told(0, 1), 0);
        x.set(0, 0, 1);
        due("1", x.told(0, 1), 0);
        for (int k = 1; k <= 8; k++) {
            x.set(0, k, 1);
            due("1 at " + k, x.told(0, 1), 1);
            x.set(0, k, -1);
            due("-1 at " + k, x.told(0, 1), 0);
            x.set(0, k, 2);
            due("2 at " + k, x.told(0, 1), 0);
            // 1 more than a multiple of the prime is not 1
            x.set(0, k, 4);
            due("4 at " + k, x.told(0, 1), 0);
        }
    }

    private static void toldRefused() {
        says(8, "BAD");
        TypesAtPrime x = new TypesAtPrime();
        for (int slot : NO_SLOTS) for (int what : new int[] {0, 1, 2}) due("slot " + slot, x.told(slot, what), BAD);
        for (int what : new int[] {MIN, -1, 2, MAX}) due("what " + what, x.told(0, what), BAD);
    }

    // ---- 9 and 10

    private static void mixCoefficients() {
        says(9, "NOT: a coefficient is not -9999 .. 9999");
        for (int k = 0; k <= 8; k++) {
            TypesAtPrime x = new TypesAtPrime();
            x.set(0, k, 1);
            x.set(1, k, 4);
            x.set(2, 0, 7);
            due("9999", x.mix(0, 9999, 1, 0, 3), 1);
            due("at " + k, x.at(3, k), 9999);
            due("-9999", x.mix(0, -9999, 1, 0, 3), 1);
            due("at " + k, x.at(3, k), -9999);
            due("10000", x.mix(0, 10000, 1, 0, 2), NOT);
            due("-10000", x.mix(0, 0, 1, -2500, 2), NOT);
            due("back again", x.mix(0, 10000, 1, -1, 3), 1);
            due("at " + k, x.at(3, k), 9996);
            due("as an int it would be 0", x.mix(0, 0, 1, 1 << 30, 2), NOT);
            due("as an int it would be 0", x.mix(0, MIN, 0, MIN, 2), NOT);
            due("the smallest and the greatest", x.mix(0, MIN, 0, MAX, 3), 1);
            due("at " + k, x.at(3, k), -1);
            dueRow("kept", row(x, 2), 7, 0, 0, 0, 0, 0, 0, 0, 0);
        }
    }

    private static void mixIntoItself() {
        says(9, "SLOT to becomes a times one and b times another one together");
        TypesAtPrime x = new TypesAtPrime();
        read(x, 0, "x^8+3");
        read(x, 1, "x-1");
        due("into the first", x.mix(0, 2, 1, -1, 0), 1);
        dueRow("row", row(x, 0), 7, -1, 0, 0, 0, 0, 0, 0, 2);
        due("into the second", x.mix(0, 1, 1, 1, 1), 1);
        dueRow("row", row(x, 1), 6, 0, 0, 0, 0, 0, 0, 0, 2);
        due("one and the same", x.mix(1, 3, 1, -2, 1), 1);
        dueRow("row", row(x, 1), 6, 0, 0, 0, 0, 0, 0, 0, 2);
        due("0 times both", x.mix(0, 0, 1, 0, 1), 1);
        due("of 0", x.told(1, 0), -10);
        due("of nothing as often as can be", x.mix(1, MIN, 2, MAX, 3), 1);
    }

    private static void mixRefused() {
        says(9, "BAD: slots; NOT");
        TypesAtPrime x = new TypesAtPrime();
        x.set(0, 0, 1);
        for (int slot : NO_SLOTS) {
            due("one", x.mix(slot, 1, 0, 1, 1), BAD);
            due("other", x.mix(0, 1, slot, 1, 1), BAD);
            due("to", x.mix(0, 1, 0, 1, slot), BAD);
            due("named first", x.mix(0, MAX, 0, MAX, slot), BAD);
        }
        due("nothing came", x.told(1, 0), -10);
    }

    private static void timesDegree() {
        says(10, "DEEP: its DEGREE would be above 8");
        for (int one = 0; one <= 8; one++) {
            for (int other = 0; other <= 8; other++) {
                TypesAtPrime x = new TypesAtPrime();
                x.set(0, one, 2);
                x.set(1, other, -3);
                x.set(2, 5, 9);
                boolean deep = one + other > 8;
                due("times", x.times(0, 1, 2), deep ? DEEP : 1);
                due("degree " + one + " by " + other, x.told(2, 0), deep ? 5 : one + other);
                due("front", deep ? x.at(2, 5) : x.at(2, one + other), deep ? 9 : -6);
            }
        }
        TypesAtPrime x = new TypesAtPrime();
        x.set(0, 8, 1);
        due("by 0", x.times(0, 1, 0), 1);
        due("of 0", x.told(0, 0), -10);
        due("0 by 0", x.times(2, 2, 3), 1);
    }

    private static void timesCoefficients() {
        says(10, "NOT: a coefficient is not -9999 .. 9999");
        TypesAtPrime x = new TypesAtPrime();
        read(x, 0, "99*x^4");
        read(x, 1, "101*x^4");
        read(x, 2, "100*x^4");
        due("9999", x.times(0, 1, 3), 1);
        due("at 8", x.at(3, 8), 9999);
        due("10000", x.times(2, 2, 3), NOT);
        due("kept", x.at(3, 8), 9999);
        read(x, 2, "-100");
        due("10000 of 1", x.times(2, 2, 3), NOT);
        read(x, 1, "100");
        due("-10000 of 1", x.times(1, 2, 3), NOT);
        read(x, 0, "9999*x+9999");
        read(x, 1, "x-1");
        due("two that come to 0", x.times(0, 1, 0), 1);
        dueRow("row", row(x, 0), -9999, 0, 9999, 0, 0, 0, 0, 0, 0);
        read(x, 0, "5000*x+5000");
        read(x, 1, "x+1");
        due("two that come to 10000", x.times(0, 1, 3), NOT);
        due("into itself", x.times(1, 1, 1), 1);
        dueRow("row", row(x, 1), 1, 2, 1, 0, 0, 0, 0, 0, 0);
        says(10, "of several the one that is named first: BAD; DEEP; NOT");
        read(x, 0, "9999*x^8");
        due("deep, and too great", x.times(0, 0, 3), DEEP);
        due("bad, and deep", x.times(0, 0, 5), BAD);
    }

    private static void timesRefused() {
        says(10, "BAD");
        TypesAtPrime x = new TypesAtPrime();
        for (int slot : NO_SLOTS) {
            due("one", x.times(slot, 0, 0), BAD);
            due("other", x.times(0, slot, 0), BAD);
            due("to", x.times(0, 0, slot), BAD);
        }
    }

    // ---- 11

    private static long worth(String text, int at) {
        TypesAtPrime x = new TypesAtPrime();
        read(x, 4, text);
        return x.worth(4, at);
    }

    private static void worthJustALong() {
        says(11, "in longs");
        // 2^63 - 2 is (2^31 - 1) times (2^32 + 2)
        due("the greatest", worth("2*x^2+4*x+1", MAX), Long.MAX_VALUE);
        due("the smallest but one", worth("-2*x^2-4*x-1", MAX), -Long.MAX_VALUE);
        due("the same of the other side", worth("2*x^2-4*x+1", -MAX), Long.MAX_VALUE);
        due("0", worth("0", MIN), 0);
        due("of 0 only the last is left", worth("9999*x^8+9999*x-9999", 0), -9999);
        due("at 1 all", worth("9999*x^8+9999*x-9999", 1), 9999);
    }

    private static void worthProducts() {
        says(11, "a product on the way is no long");
        due("a product 2^63", worth("8*x^4", 1 << 15), NO);
        due("though the sum would be one", worth("8*x^4-1", 1 << 15), NO);
        due("-2^63 and 1", worth("-8*x^4+1", 1 << 15), Long.MIN_VALUE + 1);
        due("though the sum would be one", worth("2*x^2+5*x-9999", MAX), NO);
        due("2^64, which would wrap to 0", worth("x^8+5", 256), NO);
        due("2^64 of the other sign", worth("-x^8+5", 256), NO);
        due("x^7 is one, x^8 is none", worth("x^8", 1 << 8), NO);
        due("x^7", worth("x^7", 1 << 8), 1L << 56);
        due("what is small in the end", worth("x^8-256*x^7", 1 << 8), 0);
        due("what was too great on the way", worth("x^8-9999*x^7-9999*x^6", 20000), NO);
        due("-2^31 by -2^31 by 2 is 2^63", worth("2*x^2-1", MIN), NO);
        due("-2^63 on the way, then a product of it", worth("-2*x^3", MIN), NO);
    }

    private static void worthSums() {
        says(11, "a sum on the way is no long");
        due("2^63", worth("2*x^2+4*x+2", MAX), NO);
        due("2^63 and 9997 more", worth("2*x^2+4*x+9999", MAX), NO);
        due("-2^63 less 1", worth("-2*x^2-4*x-3", MAX), NO);
        due("-2^63 less 1", worth("-8*x^4-1", 1 << 15), NO);
    }

    private static void worthRefused() {
        says(11, "NO: slot");
        TypesAtPrime x = new TypesAtPrime();
        for (int slot : NO_SLOTS) due("slot " + slot, x.worth(slot, 0), NO);
        for (int slot = 0; slot < 5; slot++) due("slot " + slot, x.worth(slot, MAX), 0);
    }

    // ---- 12

    private static long powerOf(int p, int k) {
        return BigInteger.valueOf(p).pow(k).longValue();
    }

    private static void numbersWrapRound() {
        says(12, "NUMBERS are taken by p to the K: what remains, 0 or more");
        for (int i = 0; i < 4; i++) {
            TypesAtPrime x = new TypesAtPrime();
            x.prime(PRIMES[i]);
            long size = powerOf(PRIMES[i], LIMITS[i]);
            read(x, 0, "x^8-1");
            read(x, 1, "x");
            due("-1 of " + PRIMES[i], x.expansion(0, 1, 0, 0), size - 1);
            read(x, 0, "9999*x-9999");
            due("-9999", x.expansion(0, 1, 0, 0), size - 9999);
            due("9999", x.expansion(0, 1, 1, 0), 9999);
            read(x, 0, "x^8");
            read(x, 1, "x-9999");
            due("9999 to the 8", x.expansion(0, 1, 0, 0), BigInteger.valueOf(9999).pow(8).mod(BigInteger.valueOf(size)).longValue());
            read(x, 1, "x+9999");
            due("-8 times 9999 to the 7", x.expansion(0, 1, 1, 0), BigInteger.valueOf(9999).pow(7).multiply(BigInteger.valueOf(-8)).mod(BigInteger.valueOf(size)).longValue());
        }
        says(12, "what p to the K divides is 0");
        TypesAtPrime x = new TypesAtPrime();
        x.prime(2);
        read(x, 0, "x^4");
        read(x, 1, "x-128");
        due("2^28", x.expansion(0, 1, 0, 0), 0);
        due("4 times 2^21", x.expansion(0, 1, 1, 0), 1 << 23);
        read(x, 1, "x-64");
        due("2^24", x.expansion(0, 1, 0, 0), 1 << 24);
    }

    private static void expansionPlaces() {
        says(12, "a_i (i 0 .. 8); x^k (k 0 .. 8); each a_i of lesser DEGREE than g");
        for (int degree = 1; degree <= 8; degree++) {
            TypesAtPrime x = new TypesAtPrime();
            read(x, 0, "x^8+2*x^7+3*x^6+4*x^5+5*x^4+6*x^3+7*x^2+8*x+9");
            read(x, 1, "x^" + degree);
            for (int i = 0; i <= 8; i++) {
                for (int k = 0; k <= 8; k++) {
                    int place = i * degree + k;
                    due("by x^" + degree + " " + i + " " + k, x.expansion(0, 1, i, k), k < degree && place <= 8 ? 9 - place : 0);
                }
            }
        }
    }

    private static void expansionOfLittle() {
        TypesAtPrime x = new TypesAtPrime();
        read(x, 0, "x^8-2");
        says(12, "what has a lesser DEGREE than g is a_0");
        read(x, 1, "x^7+5");
        due("x^7", x.expansion(1, 0, 0, 7), 1);
        due("5", x.expansion(1, 0, 0, 0), 5);
        due("no more", x.expansion(1, 0, 1, 0), 0);
        says(12, "of 0 all is 0");
        for (int i = 0; i <= 8; i++) due("a_" + i, x.expansion(2, 0, i, 0), 0);
        says(12, "by itself");
        due("a_0", x.expansion(0, 0, 0, 0), 0);
        due("a_1", x.expansion(0, 0, 1, 0), 1);
        due("a_2", x.expansion(0, 0, 2, 0), 0);
        says(12, "what is only asked changes nothing");
        dueRow("row", row(x, 0), -2, 0, 0, 0, 0, 0, 0, 0, 1);
    }

    private static void expansionRefused() {
        says(12, "NO: slots, i, k");
        TypesAtPrime x = new TypesAtPrime();
        read(x, 0, "x");
        for (int slot : NO_SLOTS) {
            due("slot " + slot, x.expansion(slot, 0, 0, 0), NO);
            due("by " + slot, x.expansion(0, slot, 0, 0), NO);
        }
        for (int k : NO_POWERS) {
            due("i " + k, x.expansion(0, 0, k, 0), NO);
            due("k " + k, x.expansion(0, 0, 0, k), NO);
        }
        says(12, "NO: the other one is not MONIC");
        for (String other : new String[] {"0", "1", "2", "-x", "2*x", "x^8-x^7+0*x-2*x^8", "4*x^3+x"}) {
            read(x, 1, other);
            due("by " + other, x.expansion(0, 1, 0, 0), NO);
        }
    }

    // ---- 13

    private static TypesAtPrime holding(int p, String text) {
        TypesAtPrime x = new TypesAtPrime();
        x.prime(p);
        read(x, 0, text);
        return x;
    }

    /** FACTOR i: how often, and its coefficients from that of x^0 on. */
    private static void dueFactor(TypesAtPrime x, int i, int often, int... row) {
        due("how often " + i, x.factor(0, i, -2), often);
        due("degree " + i, x.factor(0, i, -3), row.length - 1);
        for (int k = 0; k <= 8; k++) due("factor " + i + " at " + k, x.factor(0, i, k), k < row.length ? row[k] : 0);
    }

    private static void factorsNone() {
        says(13, "NO: it is 0 over RESIDUES");
        for (int p : PRIMES) {
            TypesAtPrime x = holding(p, p + "*x^8-" + p * p + "*x+" + p);
            for (int what = -3; what <= 8; what++) due("of p " + what, x.factor(0, 0, what), NO);
            for (int what = -3; what <= 8; what++) due("of 0 " + what, x.factor(1, 0, what), NO);
        }
        says(13, "a number that isn't 0 has no FACTORS");
        for (int p : PRIMES) {
            TypesAtPrime x = holding(p, p + "*x^8+" + (p + 1));
            due("how many", x.factor(0, 0, -1), 0);
            for (int what = -3; what <= 8; what++) if (what != -1) due("no such " + what, x.factor(0, 0, what), NO);
        }
    }

    private static void factorsOnceAndOften() {
        says(13, "each with how often it does");
        for (int p : PRIMES) {
            for (int often = 1; often <= 8; often++) {
                TypesAtPrime x = holding(p, "x^" + often);
                due("how many", x.factor(0, 0, -1), 1);
                dueFactor(x, 0, often, 0, 1);
            }
        }
        dueFactor(holding(2, "x^8+1"), 0, 8, 1, 1);
        dueFactor(holding(2, "x^8+x^4+1"), 0, 4, 1, 1, 1);
        dueFactor(holding(2, "x^8+x^2+1"), 0, 2, 1, 1, 0, 0, 1);
        dueFactor(holding(2, "x^8+x^4+x^3+x+1"), 0, 1, 1, 1, 0, 1, 1, 0, 0, 0, 1);
        says(13, "with 1 in front; coefficients 0 .. p - 1");
        dueFactor(holding(7, "3*x-1"), 0, 1, 2, 1);
        dueFactor(holding(5, "-x-9999"), 0, 1, 4, 1);
        dueFactor(holding(3, "9999*x^2-9998*x-1"), 0, 1, 2, 1);
    }

    private static void factorsInOrder() {
        says(13, "those of lesser degree ahead, of like ones the one with the lesser number");
        TypesAtPrime x = holding(2, "x^8-x");
        due("how many", x.factor(0, 0, -1), 4);
        dueFactor(x, 0, 1, 0, 1);
        dueFactor(x, 1, 1, 1, 1);
        // 1 and 2 and 8; 1 and 4 and 8
        dueFactor(x, 2, 1, 1, 1, 0, 1);
        dueFactor(x, 3, 1, 1, 0, 1, 1);
        x = holding(7, "x^7-x");
        due("how many", x.factor(0, 0, -1), 7);
        for (int r = 0; r < 7; r++) dueFactor(x, r, 1, r, 1);
        // the one that comes often is not ahead of the one that comes once
        x = holding(5, "x^3+7*x^2+15*x+9");
        due("how many", x.factor(0, 0, -1), 2);
        dueFactor(x, 0, 1, 1, 1);
        dueFactor(x, 1, 2, 3, 1);
    }

    private static void factorPlaces() {
        says(13, "how many (what -1; i does not matter)");
        TypesAtPrime x = holding(3, "x^2-1");
        for (int i : new int[] {MIN, -1, 0, 1, 2, 9, MAX}) due("i " + i, x.factor(0, i, -1), 2);
        says(13, "there is no such FACTOR");
        for (int i : new int[] {MIN, -1, 2, 3, 8, 9, MAX}) {
            for (int what = -3; what <= 8; what++) if (what != -1) due("i " + i + " what " + what, x.factor(0, i, what), NO);
        }
        due("the last", x.factor(0, 1, -2), 1);
        due("x^8 of a lesser one", x.factor(0, 1, 8), 0);
        // eight of them are not to be seen where there are two
        x = holding(7, "x^7-x");
        x.factor(0, 6, 0);
        read(x, 0, "x^2-1");
        due("no third one", x.factor(0, 2, -3), NO);
    }

    private static void factorRefused() {
        says(13, "NO: slot, what");
        TypesAtPrime x = holding(3, "x");
        for (int slot : NO_SLOTS) for (int what = -3; what <= 8; what++) due("slot " + slot, x.factor(slot, 0, what), NO);
        for (int what : new int[] {MIN, -5, -4, 9, 10, MAX}) due("what " + what, x.factor(0, 0, what), NO);
    }
}
