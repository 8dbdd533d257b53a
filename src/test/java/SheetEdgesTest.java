/** The boundary cases that the document names for SHEETS and for count, sentence by sentence (promises 25 to 33). */
public final class SheetEdgesTest extends Checks {
    private static final int[] NO_SHEETS = {MIN, -1, 4, MAX};

    public static void main(String[] args) {
        borderOfFewPoints();
        borderBelowNought();
        borderOfLines();
        borderOfGreatNumbers();
        borderOfAFullRow();
        cornerRefused();
        slopeCutOff();
        slopeOfGreatNumbers();
        slopeRefused();
        whyNot();
        whyNotAsSlope();
        spillRoom();
        spillPoints();
        spillRefused();
        sheetSizes();
        sheetIsNew();
        sheetMissing();
        sheetRefused();
        cellBytes();
        cellInts();
        cellRefused();
        itemRefused();
        shiftOverItself();
        shiftToTheEnds();
        shiftOutside();
        shiftRefused();
        counts();
        countRefused();
        end("sheets keep to their edges");
    }

    private static TypesAtPrime with(int sort, int... numbers) {
        TypesAtPrime x = new TypesAtPrime();
        fill(x, 0, sort, numbers);
        return x;
    }

    // ---- 25

    private static void borderOfFewPoints() {
        says(25, "from the first to the last such point, these two, too");
        dueBorder(with(1));
        dueBorder(with(1, 5), 0);
        dueBorder(with(1, 5, 5), 0, 1);
        dueBorder(with(1, -1, -1, 5, -1), 2);
        dueBorder(with(1, -1, 5, -1, -1, 4, -1), 1, 4);
    }

    private static void dueBorder(TypesAtPrime x, int... places) {
        dueCorners(x, 0, places);
    }

    private static void borderBelowNought() {
        says(25, "its numbers that aren't below 0");
        dueBorder(with(1, -1, -2, MIN));
        dueBorder(with(1, 0), 0);
        dueBorder(with(1, 2, -1, 2), 0, 2);
        dueBorder(with(1, 2, 0, 2), 0, 1, 2);
        dueBorder(with(0, 127, 128, 127), 0, 2);
        dueBorder(with(0, 9, 256, 9), 0, 1, 2);
        dueBorder(with(0, 255, 128, -1));
    }

    private static void borderOfLines() {
        says(25, "at which its direction changes");
        dueBorder(with(1, 4, 3, 2, 1), 0, 3);
        dueBorder(with(1, 0, 0, 0, 0), 0, 3);
        dueBorder(with(1, 6, 4, 2, 1, 0), 0, 2, 4);
        dueBorder(with(1, 6, -1, 2, -1, 0), 0, 2, 4);
        dueBorder(with(1, 0, 1, 2, 3), 0, 3);
        dueBorder(with(1, 3, 2, 1, 1, 2, 3), 0, 2, 3, 5);
        says(25, "the lower border of all of them");
        dueBorder(with(1, 3, 9, 3), 0, 2);
        dueBorder(with(1, 5, 4, 2, 0), 0, 3);
        dueBorder(with(1, 10, 4, 6, 1, 3, 0), 0, 1, 3, 5);
    }

    private static void borderOfGreatNumbers() {
        says(25, "numbers of an int");
        dueBorder(with(1, MAX, 0, MAX), 0, 1, 2);
        dueBorder(with(1, 0, MAX, 0), 0, 2);
        dueBorder(with(1, MAX, MAX, MAX), 0, 2);
        dueBorder(with(1, MAX, MIN, MAX), 0, 2);
        int[] far = new int[40];
        for (int i = 0; i < 40; i++) far[i] = -1;
        far[0] = MAX;
        far[39] = 0;
        // the line is at MAX less MAX / 39, which is no whole number, at 1
        far[1] = MAX - MAX / 39;
        dueBorder(with(1, far), 0, 39);
        far[1] = MAX - MAX / 39 - 1;
        dueBorder(with(1, far), 0, 1, 39);
        far[1] = -1;
        far[0] = 39 * 50000000;
        far[13] = 26 * 50000000;
        dueBorder(with(1, far), 0, 39);
        far[13]--;
        dueBorder(with(1, far), 0, 13, 39);
    }

    private static void borderOfAFullRow() {
        says(25, "rows of numbers, 40 at most");
        TypesAtPrime x = new TypesAtPrime();
        x.sheet(3, 1, 40);
        dueCorners(x, 3, 0, 39);
        for (int i = 0; i < 40; i++) x.cell(3, i, (i - 20) * (i - 20));
        for (int i = 0; i < 40; i++) due("all of them", x.corner(3, i), i);
        due("no more", x.corner(3, 40), NONE);
        // what lies behind the end of a shorter row does not count
        x.sheet(3, 1, 2);
        dueCorners(x, 3, 0, 1);
    }

    private static void cornerRefused() {
        says(25, "BAD: sheet; NOTHING; NONE: there is no such CORNER");
        TypesAtPrime x = with(1, 3, 0, 3);
        for (int sheet : NO_SHEETS) due("sheet " + sheet, x.corner(sheet, 0), BAD);
        for (int i : new int[] {MIN, -1, 0, 3, MAX}) due("missing", x.corner(1, i), NOTHING);
        for (int i : new int[] {MIN, -1, 3, 40, MAX}) due("corner " + i, x.corner(0, i), NONE);
        x.sheet(2, 0, 0);
        due("of none", x.corner(2, 0), NONE);
    }

    // ---- 26 and 27

    private static void dueSlope(TypesAtPrime x, int i, int j, long quotient, long rest) {
        due("slope " + i + " " + j, x.slope(0, i, j, 0), quotient);
        due("rest " + i + " " + j, x.slope(0, i, j, 1), rest);
    }

    private static void slopeCutOff() {
        says(26, "the first less the second by j - i: the quotient, cut off towards 0; what remains with it");
        TypesAtPrime x = with(1, 7, 0, 0, -7, 0, 14);
        dueSlope(x, 0, 1, 7, 0);
        dueSlope(x, 0, 2, 3, 1);
        dueSlope(x, 2, 0, 3, -1);
        dueSlope(x, 3, 1, 3, -1);
        dueSlope(x, 1, 3, 3, 1);
        dueSlope(x, 3, 5, -10, -1);
        dueSlope(x, 5, 3, -10, 1);
        dueSlope(x, 0, 4, 1, 3);
        dueSlope(x, 4, 0, 1, -3);
        dueSlope(x, 1, 4, 0, 0);
        dueSlope(x, 1, 5, -3, -2);
        TypesAtPrime bytes = with(0, 127, 128, 255);
        dueSlope(bytes, 0, 1, 255, 0);
        dueSlope(bytes, 0, 2, 64, 0);
    }

    private static void slopeOfGreatNumbers() {
        says(26, "what is told may be any number");
        TypesAtPrime x = with(1, MIN, MAX, MIN, MAX);
        dueSlope(x, 0, 1, -4294967295L, 0);
        dueSlope(x, 1, 0, -4294967295L, 0);
        dueSlope(x, 1, 2, 4294967295L, 0);
        dueSlope(x, 0, 3, -1431655765L, 0);
        // -2^31 by -1 is 2^31
        TypesAtPrime y = with(1, 0, MIN, 0);
        dueSlope(y, 1, 0, 2147483648L, 0);
        dueSlope(y, 0, 1, 2147483648L, 0);
        dueSlope(y, 1, 2, -2147483648L, 0);
    }

    private static void slopeRefused() {
        says(26, "NO: sheet, what, it is missing, no such places, i is j");
        TypesAtPrime x = with(1, 5, 6, 7);
        for (int sheet : NO_SHEETS) due("sheet " + sheet, x.slope(sheet, 0, 1, 0), NO);
        for (int what : new int[] {MIN, -1, 2, MAX}) due("what " + what, x.slope(0, 0, 1, what), NO);
        due("missing", x.slope(1, 0, 1, 0), NO);
        for (int what = 0; what < 2; what++) {
            for (int place : new int[] {MIN, -1, 3, 40, MAX}) {
                due("i " + place, x.slope(0, place, 1, what), NO);
                due("j " + place, x.slope(0, 1, place, what), NO);
            }
            for (int i = 0; i < 3; i++) due("i is j", x.slope(0, i, i, what), NO);
        }
        due("the last place", x.slope(0, 2, 0, 0), -1);
    }

    private static void whyNot() {
        says(27, "0 there is one; BAD: sheet; NOTHING; OUTSIDE; BY_NOUGHT: i is j");
        TypesAtPrime x = with(0, 5, 6, 7);
        due("there is one", x.whyNot(0, 0, 2), 0);
        due("there is one", x.whyNot(0, 2, 0), 0);
        for (int sheet : NO_SHEETS) due("sheet " + sheet, x.whyNot(sheet, 0, 1), BAD);
        due("missing", x.whyNot(3, 0, 1), NOTHING);
        for (int place : new int[] {MIN, -1, 3, 40, MAX}) {
            due("i " + place, x.whyNot(0, place, 1), OUTSIDE);
            due("j " + place, x.whyNot(0, 1, place), OUTSIDE);
        }
        for (int i = 0; i < 3; i++) due("i is j", x.whyNot(0, i, i), BY_NOUGHT);
        says(27, "of several the one that is named first");
        due("missing, outside, alike", x.whyNot(3, 9, 9), NOTHING);
        due("outside, alike", x.whyNot(0, 3, 3), OUTSIDE);
        due("outside, alike", x.whyNot(0, -1, -1), OUTSIDE);
        x.sheet(1, 1, 0);
        due("an empty row", x.whyNot(1, 0, 0), OUTSIDE);
    }

    private static void whyNotAsSlope() {
        says(27, "The quotient of slope(), for one who wants to know why there is none");
        TypesAtPrime x = with(1, 5, 6, 7);
        for (int sheet = -1; sheet <= 4; sheet++) {
            for (int i = -1; i <= 3; i++) {
                for (int j = -1; j <= 3; j++) due("told alike", x.whyNot(sheet, i, j) == 0 ? 1 : 0, x.slope(sheet, i, j, 0) == NO ? 0 : 1);
            }
        }
    }

    // ---- 28

    private static void spillRoom() {
        says(28, "as many as have room: how many");
        TypesAtPrime x = grown(3, "x^6-27");
        for (int size : new int[] {0, 1, 8, 9, 10, 40}) {
            for (int from = 0; from <= size; from++) {
                x.sheet(0, 1, size);
                for (int i = 0; i < size; i++) x.cell(0, i, 77);
                int many = Math.min(9, size - from);
                due("size " + size + " from " + from, x.spill(0, 0, from), many);
                if (from > 0) due("ahead", x.item(0, from - 1), 77);
                if (many > 0) due("the first", x.item(0, from), 3);
                if (many == 9) due("the last", x.item(0, from + 8), -1);
                due("behind", x.item(0, from + many), from + many < size ? 77 : NO);
                // a new object long before the 512th call
                x = grown(3, "x^6-27");
            }
        }
    }

    private static void spillPoints() {
        says(28, "w_0 .. w_8 of KNOT i (-1: no such POINT)");
        TypesAtPrime x = grown(3, "x^6-27");
        x.sheet(0, 1, 9);
        due("ints", x.spill(1, 0, 0), 9);
        dueItems(x, 0, -1, 8, 8, 6, -1, -1, -1, -1, -1);
        says(28, "(Bytes: lowest 8 bits.)");
        x.sheet(0, 0, 9);
        due("bytes", x.spill(1, 0, 0), 9);
        dueItems(x, 0, -1, 8, 8, 6, -1, -1, -1, -1, -1);
        TypesAtPrime full = grown(2, "x^8-256");
        full.sheet(2, 0, 9);
        due("nine", full.spill(0, 2, 0), 9);
        dueItems(full, 2, 8, -1, -1, -1, -1, -1, -1, -1, 0);
    }

    private static void spillRefused() {
        says(28, "BAD: sheet; NONE: there is no such KNOT; NOTHING; OUTSIDE: from is below 0 or above how many numbers it has");
        TypesAtPrime x = grown(3, "x^6-27");
        fill(x, 0, 1, 7, 7, 7);
        for (int sheet : NO_SHEETS) due("sheet " + sheet, x.spill(0, sheet, 0), BAD);
        for (int i : new int[] {MIN, -1, 2, MAX}) due("knot " + i, x.spill(i, 0, 0), NONE);
        due("missing", x.spill(0, 1, 0), NOTHING);
        for (int from : new int[] {MIN, -1, 4, 40, MAX}) due("from " + from, x.spill(0, 0, from), OUTSIDE);
        dueItems(x, 0, 7, 7, 7);
        due("from its end", x.spill(0, 0, 3), 0);
        dueItems(x, 0, 7, 7, 7);
        says(28, "of several the one that is named first");
        due("all", x.spill(9, 4, -1), BAD);
        due("no knot, missing, outside", x.spill(9, 1, -1), NONE);
        due("missing, outside", x.spill(0, 1, -1), NOTHING);
        x.prime(3);
        due("without a tree", x.spill(0, 0, 0), NONE);
        due("without a tree, missing", x.spill(0, 1, 0), NONE);
    }

    // ---- 29

    private static void sheetSizes() {
        says(29, "rows of numbers, 40 at most");
        for (int sort = 0; sort <= 1; sort++) {
            for (int n : new int[] {0, 1, 39, 40}) {
                TypesAtPrime x = new TypesAtPrime();
                due("n " + n, x.sheet(3, sort, n), 1);
                due("the last", x.item(3, n - 1), n > 0 ? 0 : NO);
                due("no more", x.item(3, n), NO);
                due("cell", x.cell(3, n, 1), OUTSIDE);
                due("it isn't missing", x.count(4), 1);
            }
        }
        says(29, "BAD: n above 40; SIZE");
        TypesAtPrime x = with(1, 8, 9);
        for (int n : new int[] {41, 42, 1000, MAX}) for (int sort = 0; sort <= 1; sort++) due("n " + n, x.sheet(0, sort, n), BAD);
        for (int n : new int[] {-1, -40, MIN}) for (int sort = 0; sort <= 1; sort++) due("n " + n, x.sheet(0, sort, n), SIZE);
        dueItems(x, 0, 8, 9);
        due("not made", x.sheet(1, 0, 41), BAD);
        due("still missing", x.cell(1, 0, 0), NOTHING);
    }

    private static void sheetIsNew() {
        says(29, "all 0");
        TypesAtPrime x = with(1, 5, -6, MAX);
        due("made anew", x.sheet(0, 1, 3), 1);
        dueItems(x, 0, 0, 0, 0);
        fill(x, 0, 1, 1, 2, 3, 4);
        x.sheet(0, 0, 2);
        dueItems(x, 0, 0, 0);
        x.sheet(0, 1, 4);
        dueItems(x, 0, 0, 0, 0, 0);
        fill(x, 0, 1, 1, 2, 3, 4);
        x.sheet(0, -1, 0);
        x.sheet(0, 1, 4);
        dueItems(x, 0, 0, 0, 0, 0);
    }

    private static void sheetMissing() {
        says(29, "or missing (sort -1: n doesn't matter)");
        for (int n : new int[] {MIN, -1, 0, 1, 40, 41, MAX}) {
            TypesAtPrime x = with(1, 5);
            due("n " + n, x.sheet(0, -1, n), 1);
            due("item", x.item(0, 0), NO);
            due("cell", x.cell(0, 0, 1), NOTHING);
            due("sheets", x.count(4), 0);
            due("missing once more", x.sheet(0, -1, n), 1);
        }
    }

    private static void sheetRefused() {
        says(29, "BAD: sheet, sort (-1 .. 1)");
        TypesAtPrime x = with(1, 5);
        for (int sheet : NO_SHEETS) for (int sort = -1; sort <= 1; sort++) due("sheet " + sheet, x.sheet(sheet, sort, 1), BAD);
        for (int sort : new int[] {MIN, -2, 2, MAX}) due("sort " + sort, x.sheet(0, sort, 1), BAD);
        dueItems(x, 0, 5);
        says(29, "of several the one that is named first");
        due("sheet and size", x.sheet(4, 0, -1), BAD);
        due("sort and size", x.sheet(0, 2, -1), BAD);
        due("sort and size", x.sheet(0, -2, -1), BAD);
        due("sheets", x.count(4), 1);
    }

    // ---- 30 and 31

    private static void cellBytes() {
        says(30, "(in bytes its lowest 8 bits)");
        TypesAtPrime x = new TypesAtPrime();
        x.sheet(0, 0, 1);
        int[][] kept = {{0, 0}, {1, 1}, {127, 127}, {128, -128}, {129, -127}, {255, -1}, {256, 0}, {257, 1}, {511, -1}, {-1, -1}, {-128, -128}, {-129, 127}, {-256, 0}, {65535, -1}, {65536, 0},
            {MAX, -1}, {MIN, 0}, {MIN + 1, 1}, {200, -56}};
        for (int[] one : kept) {
            due("cell " + one[0], x.cell(0, 0, one[0]), 1);
            due("item " + one[0], x.item(0, 0), one[1]);
        }
    }

    private static void cellInts() {
        says(30, "Number i of a SHEET becomes v");
        TypesAtPrime x = new TypesAtPrime();
        x.sheet(3, 1, 40);
        for (int v : new int[] {0, 128, 256, -129, 65536, MAX, MIN, -1}) {
            due("cell " + v, x.cell(3, 39, v), 1);
            due("item " + v, x.item(3, 39), v);
        }
        due("the first", x.cell(3, 0, 4), 1);
        due("the one beside it", x.item(3, 1), 0);
    }

    private static void cellRefused() {
        says(30, "BAD: sheet; NOTHING; OUTSIDE");
        TypesAtPrime x = with(1, 5, 6);
        for (int sheet : NO_SHEETS) due("sheet " + sheet, x.cell(sheet, 0, 1), BAD);
        for (int i : new int[] {MIN, -1, 0, 2, MAX}) due("missing", x.cell(1, i, 1), NOTHING);
        for (int i : new int[] {MIN, -1, 2, 39, 40, MAX}) due("i " + i, x.cell(0, i, 1), OUTSIDE);
        dueItems(x, 0, 5, 6);
        x.sheet(1, 0, 0);
        due("an empty row", x.cell(1, 0, 1), OUTSIDE);
    }

    private static void itemRefused() {
        says(31, "NO: sheet, it is missing, there is none such");
        TypesAtPrime x = with(1, 5, 6);
        for (int sheet : NO_SHEETS) due("sheet " + sheet, x.item(sheet, 0), NO);
        for (int i : new int[] {MIN, -1, 0, MAX}) due("missing", x.item(1, i), NO);
        for (int i : new int[] {MIN, -1, 2, 39, 40, MAX}) due("i " + i, x.item(0, i), NO);
        // a longer row that stood before is not to be seen
        x.sheet(0, 1, 1);
        due("no second", x.item(0, 1), NO);
        x.cell(0, 0, MIN);
        due("the smallest int is a number", x.item(0, 0), MIN);
    }

    // ---- 32

    private static void shiftOverItself() {
        says(32, "to another one (or the same), as they all were");
        for (int sort = 0; sort <= 1; sort++) {
            TypesAtPrime x = with(sort, 1, 2, 3, 4, 5);
            due("upwards", x.shift(0, 0, 0, 1, 4), 4);
            dueItems(x, 0, 1, 1, 2, 3, 4);
            due("downwards", x.shift(0, 1, 0, 0, 4), 4);
            dueItems(x, 0, 1, 2, 3, 4, 4);
            due("by two", x.shift(0, 0, 0, 2, 3), 3);
            dueItems(x, 0, 1, 2, 1, 2, 3);
            due("onto itself", x.shift(0, 0, 0, 0, 5), 5);
            dueItems(x, 0, 1, 2, 1, 2, 3);
        }
    }

    private static void shiftToTheEnds() {
        says(32, "n numbers, from number i on, from its number j on: n");
        TypesAtPrime x = with(1, 1, 2, 3);
        fill(x, 1, 1, 9, 9, 9, 9, 9);
        due("to the end", x.shift(0, 0, 1, 2, 3), 3);
        dueItems(x, 1, 9, 9, 1, 2, 3);
        due("the last to the first", x.shift(0, 2, 1, 0, 1), 1);
        dueItems(x, 1, 3, 9, 1, 2, 3);
        due("none", x.shift(0, 0, 1, 0, 0), 0);
        due("none from the end to the end", x.shift(0, 3, 1, 5, 0), 0);
        dueItems(x, 1, 3, 9, 1, 2, 3);
        dueItems(x, 0, 1, 2, 3);
        x.sheet(2, 1, 0);
        due("none of none", x.shift(2, 0, 2, 0, 0), 0);
        due("none of none", x.shift(2, 0, 0, 3, 0), 0);
        x.sheet(2, 1, 40);
        x.sheet(3, 1, 40);
        for (int i = 0; i < 40; i++) x.cell(2, i, i + 1);
        due("all of 40", x.shift(2, 0, 3, 0, 40), 40);
        for (int i = 0; i < 40; i++) due("item", x.item(3, i), i + 1);
    }

    private static void shiftOutside() {
        says(32, "OUTSIDE: n, i, j below 0, or beyond either's end");
        TypesAtPrime x = with(1, 1, 2, 3);
        fill(x, 1, 1, 9, 9, 9, 9, 9);
        int[][] outside = {{0, 0, -1}, {-1, 0, 1}, {0, -1, 1}, {-1, 0, 0}, {0, -1, 0}, {0, 0, 4}, {1, 0, 3}, {3, 0, 1}, {4, 0, 0}, {0, 3, 3}, {0, 5, 1}, {0, 6, 0}, {1, 1, -1},
            {MAX, 0, 1}, {0, MAX, 1}, {0, 0, MAX}, {1, 0, MAX}, {0, 1, MAX}, {MAX, MAX, MAX}, {MIN, 0, 1}, {0, MIN, 1}, {0, 0, MIN}, {MIN, 0, MIN}, {MAX, 0, MIN}, {2, 2, MAX - 1}, {0, 0, 40}, {39, 0, 1}};
        for (int[] one : outside) due("i " + one[0] + " j " + one[1] + " n " + one[2], x.shift(0, one[0], 1, one[1], one[2]), OUTSIDE);
        due("beyond the same one's end", x.shift(0, 1, 0, 0, 3), OUTSIDE);
        due("beyond the same one's end", x.shift(0, 0, 0, 1, 3), OUTSIDE);
        dueItems(x, 0, 1, 2, 3);
        dueItems(x, 1, 9, 9, 9, 9, 9);
    }

    private static void shiftRefused() {
        says(32, "BAD: sheets; NOTHING: one is missing; SORT");
        TypesAtPrime x = with(1, 1, 2, 3);
        fill(x, 1, 0, 4, 5, 6);
        for (int sheet : NO_SHEETS) {
            due("from " + sheet, x.shift(sheet, 0, 0, 0, 1), BAD);
            due("to " + sheet, x.shift(0, 0, sheet, 0, 1), BAD);
            due("named first", x.shift(2, -1, sheet, 0, 1), BAD);
        }
        due("from a missing one", x.shift(2, 0, 0, 0, 1), NOTHING);
        due("to a missing one", x.shift(0, 0, 2, 0, 1), NOTHING);
        due("both", x.shift(2, 0, 3, 0, 1), NOTHING);
        due("the same, missing", x.shift(2, 0, 2, 0, 0), NOTHING);
        due("ints to bytes", x.shift(0, 0, 1, 0, 1), SORT);
        due("bytes to ints", x.shift(1, 0, 0, 0, 1), SORT);
        due("even none of them", x.shift(1, 0, 0, 0, 0), SORT);
        says(32, "of several the one that is named first");
        due("missing, outside", x.shift(2, -1, 0, 0, 1), NOTHING);
        due("unlike, outside", x.shift(0, -1, 1, 0, 1), SORT);
        due("unlike, outside", x.shift(0, 0, 1, 0, 4), SORT);
        dueItems(x, 0, 1, 2, 3);
        dueItems(x, 1, 4, 5, 6);
    }

    // ---- 33

    private static void counts() {
        TypesAtPrime x = new TypesAtPrime();
        says(33, "2 bytes of THE TAPE");
        for (int n = 0; n <= 80; n++) {
            due("tape", x.count(2), n);
            x.feed('-');
        }
        due("a full one", x.count(2), 80);
        says(33, "3 SLOTS that aren't 0, as a set");
        for (int slot = 0; slot < 5; slot++) {
            x.set(slot, slot == 0 ? 8 : 0, -1);
            due("up to " + slot, x.count(3), (2 << slot) - 1);
        }
        x.set(0, 8, 0);
        x.set(3, 0, 0);
        due("without 0 and 3", x.count(3), 2 + 4 + 16);
        says(33, "4 SHEETS that aren't missing");
        for (int sheet = 3; sheet >= 0; sheet--) {
            x.sheet(sheet, sheet % 2, 0);
            due("sheets", x.count(4), 4 - sheet);
        }
        x.sheet(2, -1, 0);
        due("one less", x.count(4), 3);
        says(33, "5 1 if there is a TREE, else 0");
        due("none", x.count(5), 0);
        x.set(1, 1, 1);
        x.grow(1);
        due("one", x.count(5), 1);
        x.prime(3);
        due("none", x.count(5), 0);
    }

    private static void countRefused() {
        says(33, "BAD");
        TypesAtPrime x = new TypesAtPrime();
        for (int what : new int[] {MIN, -1, 6, 7, MAX}) due("what " + what, x.count(what), BAD);
    }
}
