/** Terms 5 and promises 29 to 33: the sentences that name a bound, each with a test of its own. */
public final class EdgesSheetsTest {
    private static final int LEAST = Integer.MIN_VALUE;
    private static final int GREATEST = Integer.MAX_VALUE;

    private static final Due due = new Due();

    public static void main(String[] args) {
        fourSheets();
        missingAtFirst();
        bitsOfASheet();
        atMostTwentyFourNumbers();
        stateAheadOfBeyond();
        missingWithAnyN();
        allNumbersAreZero();
        aSheetInPlaceOfOneAhead();
        lowestBitsWithASign();
        numbersOfASheet();
        noneAheadOfTheNumber();
        movedAsTheyWere();
        movedAllAndNone();
        movedBeyondAnEnd();
        movesOfEmptySheets();
        movesOfLikeBits();
        movesAskInOrder();
        papersThreeByThree();
        papersUpToOneThatIsRefused();
        papersUpToSix();
        papersOfSigns();
        papersOfMissingSheets();
        judgedAsFarAsThereAreThings();
        judgedWithoutNumbers();
        judgedWithoutThings();
        judgedByGrams();
        judgedBehindAHistory();
        judgeAsksInOrder();
        due.end();
    }

    private static OldBronze sheetOf(int bits, int... numbers) {
        OldBronze x = new OldBronze();
        fill(x, 0, bits, numbers);
        return x;
    }

    private static void fill(OldBronze x, int sheet, int bits, int... numbers) {
        x.sheet(sheet, bits, numbers.length);
        for (int i = 0; i < numbers.length; i++) {
            x.put(sheet, i, numbers[i]);
        }
    }

    /** Numbers that aren't below 0 are seen by THINGS of so many GRAMS, at most twelve. */
    private static void numbers(String of, OldBronze x, int sheet, int... want) {
        for (int grams : want) {
            x.thing(0, grams);
        }
        due.is(of, x.judge(sheet, 0), want.length);
    }

    // "SHEETS 0 .. 3".
    private static void fourSheets() {
        for (int sheet = -2; sheet <= 5; sheet++) {
            OldBronze x = new OldBronze();
            int right = sheet >= 0 && sheet <= 3 ? 1 : Due.BEYOND;
            due.is("sheet " + sheet, x.sheet(sheet, 32, 3), right);
            due.is("put " + sheet, x.put(sheet, 0, 0), right);
            due.is("move " + sheet, x.move(sheet, 0, sheet, 1, 1), right);
            due.is("papers " + sheet, x.papers(sheet), right == 1 ? 0 : right);
            due.is("judge " + sheet, x.judge(sheet, 0), right == 1 ? 0 : right);
            due.is("missing " + sheet, x.sheet(sheet, 0, 0), right);
        }
    }

    // "or missing (as at first)".
    private static void missingAtFirst() {
        OldBronze x = new OldBronze();
        for (int sheet = 0; sheet < 4; sheet++) {
            due.is("put", x.put(sheet, 0, 1), Due.NONE);
            due.is("papers", x.papers(sheet), Due.NONE);
            due.is("judge", x.judge(sheet, 0), Due.NONE);
            due.is("move", x.move(sheet, 0, sheet, 0, 0), Due.NONE);
        }
    }

    // "so many bits (8, 16, 32; 0: it is missing ..)".
    private static void bitsOfASheet() {
        for (int bits = -33; bits <= 66; bits++) {
            OldBronze x = new OldBronze();
            boolean isRight = bits == 0 || bits == 8 || bits == 16 || bits == 32;
            due.is("bits " + bits, x.sheet(0, bits, 1), isRight ? 1 : Due.BEYOND);
            due.is("missing by " + bits, x.put(0, 0, 1), isRight && bits > 0 ? 1 : Due.NONE);
        }
    }

    // "at most 24 numbers".
    private static void atMostTwentyFourNumbers() {
        for (int bits = 8; bits <= 32; bits *= 2) {
            for (int n : new int[] {0, 1, 23, 24, 25, 26, GREATEST}) {
                OldBronze x = new OldBronze();
                due.is("n " + n, x.sheet(1, bits, n), n <= 24 ? 1 : Due.BEYOND);
                if (n <= 24) {
                    due.is("the last of " + n, x.put(1, n - 1, 1), n > 0 ? 1 : Due.BEYOND);
                    due.is("beyond " + n, x.put(1, n, 1), Due.BEYOND);
                } else {
                    due.is("still missing", x.put(1, 0, 1), Due.NONE);
                }
            }
        }
    }

    // "STATE: n is below 0 (ahead of BEYOND of n)."
    private static void stateAheadOfBeyond() {
        OldBronze x = new OldBronze();
        due.is("n -1", x.sheet(0, 8, -1), Due.STATE);
        due.is("n the least", x.sheet(0, 32, LEAST), Due.STATE);
        due.is("sheet 4, n -1", x.sheet(4, 8, -1), Due.BEYOND);
        due.is("sheet -1, n -1", x.sheet(-1, 8, -1), Due.BEYOND);
        due.is("bits 4, n -1", x.sheet(0, 4, -1), Due.BEYOND);
        due.is("told STATE", x.told(3), 2);
        due.is("told BEYOND", x.told(1), 3);
    }

    // "0: it is missing, n doesn't matter".
    private static void missingWithAnyN() {
        for (int n : new int[] {0, 1, 24, 25, -1, LEAST, GREATEST}) {
            OldBronze x = sheetOf(8, 1, 2);
            due.is("n " + n, x.sheet(0, 0, n), 1);
            due.is("it is missing", x.put(0, 0, 1), Due.NONE);
            due.is("again", x.sheet(0, 0, n), 1);
            for (int k = 3; k <= 6; k++) {
                due.is("no STATE", x.told(k), 0);
            }
        }
        OldBronze y = new OldBronze();
        due.is("no such sheet", y.sheet(4, 0, 0), Due.BEYOND);
    }

    // sheet: "A SHEET has n numbers, all 0".
    private static void allNumbersAreZero() {
        for (int bits = 8; bits <= 32; bits *= 2) {
            OldBronze x = sheetOf(bits, 5, 5, 5, 5, 5, 5, 5, 5, 5, 5, 5, 5);
            x.sheet(0, bits, 12);
            numbers("all 0", x, 0, 0, 0, 0, 0, 0, 0, 0, 0, 0, 0, 0, 0);
        }
    }

    // The same: nothing is left of the one ahead, also of one that was longer, or missing since.
    private static void aSheetInPlaceOfOneAhead() {
        OldBronze x = sheetOf(32, 7, 7, 7, 7);
        x.sheet(0, 8, 2);
        due.is("two numbers", x.put(0, 2, 7), Due.BEYOND);
        x.sheet(0, 8, 4);
        numbers("all 0", x, 0, 0, 0, 0, 0);
        OldBronze y = sheetOf(16, 7, 7, 7);
        y.sheet(0, 0, 0);
        y.sheet(0, 16, 3);
        numbers("all 0 again", y, 0, 0, 0, 0);
    }

    // "rows of 8, 16, 32 bits (with a sign)"; put: "(its lowest bits)".
    private static void lowestBitsWithASign() {
        int[][] cases = {
            {8, 127, 127, 1}, {8, 128, 128, 0}, {8, 255, 255, 0}, {8, 256, 0, 1},
            {8, 256 + 127, 127, 1}, {8, -129, 127, 1}, {8, -256, 0, 1}, {8, -1, 1, 0},
            {16, 32767, 32767, 1}, {16, 32768, 32768, 0}, {16, 65535, 65535, 0},
            {16, 65536, 0, 1}, {16, 65536 + 32767, 32767, 1}, {16, -32769, 32767, 1},
            {16, 255, 255, 1}, {16, 256, 256, 1},
            {32, 32768, 32768, 1}, {32, 65536, 65536, 1}, {32, 9999999, 9999999, 1},
            {32, LEAST, 0, 0}, {32, -1, 0, 0}, {32, 0x1000000, 0, 0},
        };
        for (int[] c : cases) {
            OldBronze x = sheetOf(c[0], c[1]);
            x.thing(0, c[2]);
            due.is(c[1] + " in " + c[0] + " bits is " + c[2], x.judge(0, 0), c[3]);
        }
    }

    // put: "BEYOND: no such number."
    private static void numbersOfASheet() {
        OldBronze x = sheetOf(8, 1, 2, 3);
        due.is("-1", x.put(0, -1, 9), Due.BEYOND);
        due.is("0", x.put(0, 0, 4), 1);
        due.is("2", x.put(0, 2, 6), 1);
        due.is("3", x.put(0, 3, 9), Due.BEYOND);
        due.is("the least", x.put(0, LEAST, 9), Due.BEYOND);
        due.is("the greatest", x.put(0, GREATEST, 9), Due.BEYOND);
        numbers("as put", x, 0, 4, 2, 6);
        OldBronze y = sheetOf(8);
        due.is("of no numbers", y.put(0, 0, 1), Due.BEYOND);
    }

    // put: "BEYOND: no such SHEET. NONE: it is missing. BEYOND: no such number."
    private static void noneAheadOfTheNumber() {
        OldBronze x = new OldBronze();
        due.is("no such sheet, no such number", x.put(4, -1, 0), Due.BEYOND);
        due.is("missing, no such number", x.put(3, -1, 0), Due.NONE);
        due.is("missing, no such number, too", x.put(3, 24, 0), Due.NONE);
    }

    // move: "to another one (or the same) .. as they all were".
    private static void movedAsTheyWere() {
        OldBronze x = sheetOf(16, 1, 2, 3, 4, 5);
        due.is("up by one", x.move(0, 0, 0, 1, 4), 4);
        numbers("1 1 2 3 4", x, 0, 1, 1, 2, 3, 4);
        OldBronze y = sheetOf(8, 1, 2, 3, 4, 5);
        due.is("down by one", y.move(0, 1, 0, 0, 4), 4);
        numbers("2 3 4 5 5", y, 0, 2, 3, 4, 5, 5);
        OldBronze z = sheetOf(32, 1, 2, 3);
        fill(z, 3, 32, 9, 9, 9, 9);
        due.is("to another one", z.move(0, 1, 3, 2, 2), 2);
        numbers("9 9 2 3", z, 3, 9, 9, 2, 3);
        due.is("the one is as it was", z.put(0, 2, 3), 1);
        OldBronze w = sheetOf(32, LEAST, -1, 0);
        w.move(0, 0, 0, 1, 2);
        w.thing(0, 0);
        due.is("below 0", w.judge(0, 0), 0);
    }

    // "n numbers": all of them, or none.
    private static void movedAllAndNone() {
        OldBronze x = new OldBronze();
        x.sheet(0, 8, 24);
        x.sheet(1, 8, 24);
        x.put(0, 0, 5);
        x.put(0, 11, 6);
        due.is("all 24", x.move(0, 0, 1, 0, 24), 24);
        due.is("all onto themselves", x.move(1, 0, 1, 0, 24), 24);
        due.is("none", x.move(0, 0, 1, 1, 0), 0);
        numbers("all 12 that are seen", x, 1, 5, 0, 0, 0, 0, 0, 0, 0, 0, 0, 0, 6);
    }

    // "or they don't stand there (n 0, too, beyond an end)".
    private static void movedBeyondAnEnd() {
        for (int i = -1; i <= 5; i++) {
            for (int j = -1; j <= 6; j++) {
                for (int n = -1; n <= 6; n++) {
                    OldBronze x = sheetOf(8, 1, 2, 3, 4);
                    x.sheet(1, 8, 5);
                    boolean isThere = i >= 0 && j >= 0 && n >= 0 && i + n <= 4 && j + n <= 5;
                    due.is("move(0, " + i + ", 1, " + j + ", " + n + ")",
                            x.move(0, i, 1, j, n), isThere ? n : Due.BEYOND);
                }
            }
        }
        OldBronze y = sheetOf(8, 1, 2, 3, 4);
        for (int[] c : new int[][] {{GREATEST, 0, 1}, {0, GREATEST, 1}, {1, 1, GREATEST},
            {GREATEST, GREATEST, GREATEST}, {LEAST, 0, 0}, {0, LEAST, 0}, {0, 0, LEAST},
            {GREATEST, 0, 0}, {LEAST, LEAST, LEAST}, {2, 2, GREATEST - 1}}) {
            due.is("far beyond", y.move(0, c[0], 0, c[1], c[2]), Due.BEYOND);
        }
        numbers("none moved", y, 0, 1, 2, 3, 4);
    }

    // The same, of SHEETS that have no numbers, and are not missing.
    private static void movesOfEmptySheets() {
        OldBronze x = sheetOf(8);
        x.sheet(1, 8, 0);
        due.is("none of none", x.move(0, 0, 1, 0, 0), 0);
        due.is("one of none", x.move(0, 0, 1, 0, 1), Due.BEYOND);
        due.is("none from 1 on", x.move(0, 1, 1, 0, 0), Due.BEYOND);
        due.is("none to 1", x.move(0, 0, 1, 1, 0), Due.BEYOND);
    }

    // "KIND: they are of unlike bits."
    private static void movesOfLikeBits() {
        int[] bits = {8, 16, 32};
        for (int from : bits) {
            for (int into : bits) {
                OldBronze x = sheetOf(from, 1, 2);
                x.sheet(1, into, 2);
                due.is(from + " into " + into, x.move(0, 0, 1, 0, 2),
                        from == into ? 2 : Due.KIND);
                due.is(from + " into " + into + ", none", x.move(0, 0, 1, 0, 0),
                        from == into ? 0 : Due.KIND);
            }
        }
    }

    // "BEYOND: no such SHEET. NONE: one is missing. KIND .. BEYOND: n, i, or j".
    private static void movesAskInOrder() {
        OldBronze x = sheetOf(8, 1);
        x.sheet(1, 16, 1);
        due.is("no such sheet, one missing", x.move(3, 0, 4, 0, 1), Due.BEYOND);
        due.is("one missing, no such sheet", x.move(-1, 0, 3, 0, 1), Due.BEYOND);
        due.is("no such sheet, n -1", x.move(4, 0, 0, 0, -1), Due.BEYOND);
        due.is("the one missing, n -1", x.move(3, 0, 0, 0, -1), Due.NONE);
        due.is("the other missing, j -1", x.move(0, 0, 3, -1, 1), Due.NONE);
        due.is("unlike, i -1", x.move(0, -1, 1, 0, 1), Due.KIND);
        due.is("unlike, n 9", x.move(0, 0, 1, 0, 9), Due.KIND);
        due.is("like, n 9", x.move(0, 0, 0, 0, 9), Due.BEYOND);
        due.is("told BEYOND", x.told(1), 4);
        due.is("told NONE", x.told(2), 2);
        due.is("told KIND", x.told(5), 2);
    }

    private static OldBronze things(int things) {
        OldBronze x = new OldBronze();
        for (int i = 0; i < things; i++) {
            x.thing(0, 800);
        }
        return x;
    }

    // papers: "Numbers of a SHEET, three by three"; "or that isn't whole (no ERROR then)".
    private static void papersThreeByThree() {
        int[] row = {0, 1, 1, 1, 2, 2, 2, 0, 3};
        for (int n = 0; n <= 9; n++) {
            OldBronze x = things(3);
            fill(x, 2, 32, java.util.Arrays.copyOf(row, n));
            due.is("of " + n + " numbers", x.papers(2), n / 3);
            due.is("so many are there", x.count(3), n / 3);
            for (int k = 1; k <= 6; k++) {
                due.is("no ERROR", x.told(k), 0);
            }
        }
    }

    // "up to the first that paper() would refuse".
    private static void papersUpToOneThatIsRefused() {
        int[][] wrong = {{0, 0, 1}, {-1, 0, 1}, {0, -1, 1}, {3, 0, 1}, {0, 3, 1}, {0, 1, 0},
            {0, 1, 9}, {0, 1, -1}, {2, 2, 8}};
        for (int[] w : wrong) {
            OldBronze x = things(3);
            fill(x, 0, 8, w[0], w[1], w[2], 0, 1, 1);
            due.is("the first", x.papers(0), 0);
            due.is("none came", x.count(3), 0);
            fill(x, 0, 8, 0, 1, 8, w[0], w[1], w[2], 1, 2, 8);
            due.is("the second", x.papers(0), 1);
            due.is("one came", x.count(3), 1);
            due.is("it is as told", x.by(1, 1, 2), 1600);
            due.is("no ERROR", x.told(1) + x.told(4), 0);
        }
        OldBronze y = new OldBronze();
        fill(y, 0, 8, 0, 1, 1);
        due.is("without things", y.papers(0), 0);
    }

    // The same: also where there is no room for it.
    private static void papersUpToSix() {
        for (int ahead = 0; ahead <= 6; ahead++) {
            OldBronze x = things(2);
            for (int i = 0; i < ahead; i++) {
                x.paper(1, 0, 1);
            }
            int[] row = new int[24];
            for (int i = 0; i < 24; i += 3) {
                row[i + 1] = 1;
                row[i + 2] = 8;
            }
            fill(x, 0, 8, row);
            due.is("behind " + ahead, x.papers(0), 6 - ahead);
            due.is("six", x.count(3), 6);
            due.is("no FULL", x.told(4), 0);
            due.is("no more", x.papers(0), 0);
            due.is("one more is FULL", x.paper(0, 1, 8), Due.FULL);
        }
    }

    // "(its lowest bits)": as the SHEET has them.
    private static void papersOfSigns() {
        OldBronze x = things(2);
        fill(x, 0, 8, 256, 257, 256 + 8);
        due.is("8 bits", x.papers(0), 1);
        fill(x, 0, 16, 256, 257, 256 + 8);
        due.is("16 bits", x.papers(0), 0);
        fill(x, 0, 16, 65536, 65537, 65536 + 8);
        due.is("16 bits, too", x.papers(0), 1);
        fill(x, 0, 32, 65536, 65537, 65536 + 8);
        due.is("32 bits", x.papers(0), 0);
        due.is("both are whole moves", x.by(1, 1, 2) + x.by(2, 1, 2), 3200);
    }

    // papers: "BEYOND. NONE."
    private static void papersOfMissingSheets() {
        OldBronze x = things(2);
        due.is("sheet 4", x.papers(4), Due.BEYOND);
        due.is("missing", x.papers(0), Due.NONE);
        fill(x, 0, 8);
        due.is("no numbers", x.papers(0), 0);
        x.sheet(0, 0, 0);
        due.is("missing again", x.papers(0), Due.NONE);
    }

    // judge: "the first THING whose number isn't so"; "as many as there are THINGS: none".
    private static void judgedAsFarAsThereAreThings() {
        for (int wrong = 0; wrong <= 12; wrong++) {
            OldBronze x = things(12);
            fill(x, 1, 16, 800, 800, 800, 800, 800, 800, 800, 800, 800, 800, 800, 800);
            x.put(1, wrong, 801);
            due.is("the first that isn't", x.judge(1, 0), wrong);
            x.put(1, 11, 799);
            due.is("the first of two", x.judge(1, 0), Math.min(11, wrong));
        }
    }

    // "(also one without a number)"; numbers beyond the THINGS are of none.
    private static void judgedWithoutNumbers() {
        for (int n = 0; n <= 5; n++) {
            OldBronze x = things(3);
            int[] row = new int[n];
            java.util.Arrays.fill(row, 800);
            fill(x, 0, 32, row);
            due.is(n + " numbers of 3", x.judge(0, 0), Math.min(3, n));
        }
        OldBronze y = new OldBronze();
        y.thing(0, 0);
        fill(y, 0, 8);
        due.is("a missing number is no 0", y.judge(0, 0), 0);
        fill(y, 0, 8, 0);
        due.is("a 0 is", y.judge(0, 0), 1);
    }

    // The same, of no THINGS.
    private static void judgedWithoutThings() {
        OldBronze x = sheetOf(8);
        due.is("no numbers", x.judge(0, 0), 0);
        fill(x, 0, 8, 5, 5);
        due.is("some numbers", x.judge(0, 0), 0);
        due.is("missing", x.judge(1, 0), Due.NONE);
    }

    // "Numbers of a SHEET are GRAMS": the least and the greatest, no SLIP.
    private static void judgedByGrams() {
        OldBronze x = new OldBronze();
        x.thing(0, 0);
        x.thing(0, 9999999);
        x.weigh(1, 5, 99);
        fill(x, 0, 32, 0, 9999999);
        due.is("both", x.judge(0, 0), 2);
        fill(x, 0, 32, 0, 9999998);
        due.is("one less", x.judge(0, 0), 1);
        fill(x, 0, 32, -1, 9999999);
        due.is("below 0", x.judge(0, 0), 0);
    }

    // "behind a HISTORY"; "BEYOND: .. a set of LOST PAPERS".
    private static void judgedBehindAHistory() {
        OldBronze x = things(2);
        fill(x, 0, 16, 400, 1200);
        due.is("-1", x.judge(0, -1), Due.BEYOND);
        due.is("0", x.judge(0, 0), 0);
        due.is("1 of no papers", x.judge(0, 1), Due.BEYOND);
        x.paper(0, 1, 4);
        due.is("1", x.judge(0, 1), 2);
        due.is("2", x.judge(0, 2), Due.BEYOND);
        for (int i = 1; i < 6; i++) {
            x.paper(0, 1, 8);
        }
        due.is("63", x.judge(0, 63), 0);
        due.is("64", x.judge(0, 64), Due.BEYOND);
        due.is("all as it was", x.judge(0, 1), 2);
    }

    // "BEYOND: SHEET, a set of LOST PAPERS. NONE."
    private static void judgeAsksInOrder() {
        OldBronze x = things(1);
        due.is("missing, no set", x.judge(0, 1), Due.BEYOND);
        due.is("no sheet, no set", x.judge(4, 1), Due.BEYOND);
        due.is("no sheet", x.judge(4, 0), Due.BEYOND);
        due.is("missing", x.judge(0, 0), Due.NONE);
    }
}
