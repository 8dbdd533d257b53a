/** What the tests of single answers share. The refusals are written as the document numbers them, not taken from the class. */
abstract class Checks {
    static final int BAD = -1, NONE = -2, NOT = -3, FULL = -4, DEEP = -6, NOTHING = -11, OUTSIDE = -12, SORT = -13, SIZE = -14, BY_NOUGHT = -15;
    static final long NO = Long.MIN_VALUE;
    static final int MIN = Integer.MIN_VALUE, MAX = Integer.MAX_VALUE;

    private static int wrong = 0;
    private static int promise = 0;
    private static String sentence = "";

    /** What is tested from here on. */
    static void promise(int number) {
        promise = number;
        sentence = "";
    }

    /** The sentence of the document that is tested from here on. */
    static void says(int number, String words) {
        promise = number;
        sentence = " \"" + words + "\"";
    }

    static void due(String call, long got, long want) {
        if (got == want) return;
        wrong++;
        System.out.println("promise " + promise + sentence + ": " + call + " answered " + got + ", due is " + want);
    }

    static void dueText(String what, String got, String want) {
        if (got.equals(want)) return;
        wrong++;
        System.out.println("promise " + promise + sentence + ": " + what + " is " + got + ", due is " + want);
    }

    static void dueRow(String what, long[] got, long... want) {
        due(what + " size", got.length, want.length);
        for (int i = 0; i < Math.min(got.length, want.length); i++) due(what + " at " + i, got[i], want[i]);
    }

    static void end(String allWell) {
        System.out.println(wrong == 0 ? allWell : wrong + " answers are not as promised");
        if (wrong != 0) System.exit(1);
    }

    static void feed(TypesAtPrime x, String text) {
        for (int i = 0; i < text.length(); i++) x.feed(text.charAt(i));
    }

    static int read(TypesAtPrime x, int slot, String text) {
        feed(x, text);
        return x.text(slot);
    }

    static int asked(TypesAtPrime x, String word) {
        feed(x, word);
        return x.ask();
    }

    static long[] row(TypesAtPrime x, int slot) {
        long[] row = new long[9];
        for (int k = 0; k < 9; k++) row[k] = x.at(slot, k);
        return row;
    }

    /** A new object with a prime, whose SLOT 0 and TREE are those of a text. */
    static TypesAtPrime grown(int p, String text) {
        TypesAtPrime x = new TypesAtPrime();
        x.prime(p);
        read(x, 0, text);
        x.grow(0);
        return x;
    }

    static String spelled(TypesAtPrime x) {
        StringBuilder b = new StringBuilder();
        for (int i = 0; x.spelling(i) >= 0; i++) b.append((char) x.spelling(i));
        return b.toString();
    }

    static void fill(TypesAtPrime x, int sheet, int sort, int... numbers) {
        x.sheet(sheet, sort, numbers.length);
        for (int i = 0; i < numbers.length; i++) x.cell(sheet, i, numbers[i]);
    }

    static void dueItems(TypesAtPrime x, int sheet, long... want) {
        for (int i = 0; i < want.length; i++) due("item " + i, x.item(sheet, i), want[i]);
        due("no more", x.item(sheet, want.length), NO);
    }

    static void dueCorners(TypesAtPrime x, int sheet, int... places) {
        for (int i = 0; i < places.length; i++) due("corner " + i, x.corner(sheet, i), places[i]);
        due("no more", x.corner(sheet, places.length), NONE);
    }
}
