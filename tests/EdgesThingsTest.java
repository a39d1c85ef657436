/** Terms 1 and promises 1 to 11: the sentences that name a bound, each with a test of its own. */
public final class EdgesThingsTest {
    private static final int LEAST = Integer.MIN_VALUE;
    private static final int GREATEST = Integer.MAX_VALUE;
    private static final int MOST = 9999999;

    private static final Due due = new Due();

    public static void main(String[] args) {
        allIsAsAtFirst();
        atMostTwelveThings();
        gramsOfAThing();
        kindsAndNumbers();
        kindsUnderKinds();
        asOfNoKind();
        tracesUpToGrams();
        tracesUpToGramsAsTheyAre();
        holdsUpToAMillion();
        fourFirstThingsCount();
        firstThingsWithoutGramsCount();
        castsAreNoFirstThings();
        eighthsOfAMove();
        partsAreCut();
        tracesMoveLikewise();
        holdsOfTheOneStay();
        noHoldsByNoGrams();
        gramsAreHeld();
        holdsAreByGramsOfBoth();
        tracesAreHeld();
        meltWithoutGrams();
        numbersOfTheCrucible();
        tinOfACast();
        tinIsHeld();
        holdsFallByTin();
        holdsByGramsThen();
        burnIsCut();
        keepIsCut();
        scrapAboveKeepNone();
        theCrucibleIsEmptyThen();
        lawOfACast();
        roomForTheScrap();
        drawsBelowM();
        aHundredthIsCut();
        thingsWithoutGramsDraw();
        yearsAtOnce();
        yearsUpTo9999();
        yearsAhead();
        whatOfYearsAhead();
        aheadOf9999();
        drawsWrap();
        anySeed();
        tonesOfNoGrams();
        tonesAreCut();
        due.end();
    }

    // "All as at first; no THINGS." "THE CRUCIBLE .. (all 0 at first)." "z is told (1 at first)."
    private static void allIsAsAtFirst() {
        OldBronze x = new OldBronze();
        due.is("no things", x.count(0), 0);
        due.is("thing 0 isn't there", x.thingIs(0, 0), Due.BEYOND);
        for (int what = 2; what <= 9; what++) {
            due.is("crucible " + what, x.crucible(what), 0);
        }
        due.is("z", x.count(10), 1);
        due.is("years", x.count(6), 0);
        for (int sheet = 0; sheet < 4; sheet++) {
            due.is("sheet " + sheet + " is missing", x.papers(sheet), Due.NONE);
        }
        due.is("no texts", x.untell(0) + x.untell(1), 0);
    }

    // "THINGS 0, 1, .. (at most 12)": thing() and cast() alike.
    private static void atMostTwelveThings() {
        OldBronze x = new OldBronze();
        for (int i = 0; i < 11; i++) {
            due.is("thing " + i, x.thing(0, 8), i);
        }
        x.melt(0, 8);
        due.is("the 12th by a cast", x.cast(0, 0, 0), 11);
        due.is("a 13th thing", x.thing(0, 8), Due.FULL);
        x.melt(1, 8);
        due.is("a 13th by a cast", x.cast(0, 0, 0), Due.FULL);
        due.is("12", x.count(0), 12);
        due.is("the last of them", x.thingIs(11, 2), 8);
        due.is("one beyond", x.thingIs(12, 2), Due.BEYOND);
    }

    // "GRAMS (0 .. 9999999)".
    private static void gramsOfAThing() {
        OldBronze x = new OldBronze();
        due.is("-1", x.thing(0, -1), Due.BEYOND);
        due.is("0", x.thing(0, 0), 0);
        due.is("0 are", x.thingIs(0, 2), 0);
        due.is("9999999", x.thing(0, MOST), 1);
        due.is("9999999 are", x.thingIs(1, 2), MOST);
        due.is("10000000", x.thing(0, MOST + 1), Due.BEYOND);
        due.is("the least int", x.thing(0, LEAST), Due.BEYOND);
        due.is("the greatest int", x.thing(0, GREATEST), Due.BEYOND);
        for (int i = 2; i < 12; i++) {
            x.thing(0, MOST);
        }
        due.is("all of them", x.count(5), 11 * MOST);
    }

    // "are of KINDS: 0 .. 6"; "each with a number m (0 .. 99)".
    private static void kindsAndNumbers() {
        OldBronze x = new OldBronze();
        int[] kms = {0, 99, 100, 199, 600, 699};
        for (int i = 0; i < kms.length; i++) {
            due.is("km " + kms[i], x.thing(kms[i], 1), i);
            due.is("kind of " + kms[i], x.thingIs(i, 0), kms[i] / 100);
            due.is("m of " + kms[i], x.thingIs(i, 1), kms[i] % 100);
        }
        due.is("km -1", x.thing(-1, 1), Due.BEYOND);
        due.is("km 700", x.thing(700, 1), Due.BEYOND);
        due.is("kind to 6", x.set(0, 0, 6), 0);
        due.is("kind to 7", x.set(0, 0, 7), Due.BEYOND);
        due.is("kind to 0", x.set(0, 0, 0), 6);
        due.is("kind to -1", x.set(0, 0, -1), Due.BEYOND);
        due.is("m to 99", x.set(0, 1, 99), 0);
        due.is("m to 100", x.set(0, 1, 100), Due.BEYOND);
        due.is("m to 0", x.set(0, 1, 0), 99);
        due.is("m to -1", x.set(0, 1, -1), Due.BEYOND);
    }

    // as: "KIND: it is not of that KIND, nor of one under it."
    private static void kindsUnderKinds() {
        int[] above = {0, 0, 0, 0, 1, 2, 3};
        for (int kind = 0; kind < 7; kind++) {
            for (int as = 0; as < 7; as++) {
                OldBronze x = new OldBronze();
                x.thing(100 * kind, 9);
                boolean isSo = as == 0 || as == kind || as == above[kind];
                due.is("kind " + kind + " as " + as, x.as(0, as), isSo ? 9 : Due.KIND);
                due.is("told", x.told(5), isSo ? 0 : 1);
            }
        }
    }

    // as: "GRAMS. BEYOND." KINDS are 0 .. 6; of no GRAMS the answer is 0.
    private static void asOfNoKind() {
        OldBronze x = new OldBronze();
        due.is("no things", x.as(0, 0), Due.BEYOND);
        x.thing(100, 0);
        due.is("kind -1", x.as(0, -1), Due.BEYOND);
        due.is("kind 0", x.as(0, 0), 0);
        due.is("kind 6", x.as(0, 6), Due.KIND);
        due.is("kind 7", x.as(0, 7), Due.BEYOND);
        due.is("thing -1", x.as(-1, 0), Due.BEYOND);
        due.is("thing 1", x.as(1, 0), Due.BEYOND);
        due.is("no thing of no kind it has", x.as(1, 6), Due.BEYOND);
    }

    // "TRACES (grams of tin, lead, silver; 0 .. GRAMS each)".
    private static void tracesUpToGrams() {
        OldBronze x = new OldBronze();
        x.thing(0, 70);
        x.thing(0, 0);
        x.thing(0, MOST);
        for (int what = 3; what <= 5; what++) {
            due.is("trace -1", x.set(0, what, -1), Due.BEYOND);
            due.is("trace of all grams", x.set(0, what, 70), 0);
            due.is("trace above", x.set(0, what, 71), Due.BEYOND);
            due.is("all three at once", x.thingIs(0, what), 70);
            due.is("trace 0 of no grams", x.set(1, what, 0), 0);
            due.is("trace 1 of no grams", x.set(1, what, 1), Due.BEYOND);
            due.is("the greatest", x.set(2, what, MOST), 0);
            due.is("above the greatest", x.set(2, what, MOST + 1), Due.BEYOND);
            due.is("trace back to 0", x.set(0, what, 0), 70);
        }
    }

    // "no more than GRAMS": those that the THING has now.
    private static void tracesUpToGramsAsTheyAre() {
        OldBronze x = new OldBronze();
        x.thing(0, 80);
        x.melt(0, 4);
        due.is("41 of 40", x.set(0, 3, 41), Due.BEYOND);
        due.is("40 of 40", x.set(0, 3, 40), 0);
        x.melt(0, 8);
        due.is("1 of 0", x.set(0, 3, 1), Due.BEYOND);
        due.is("all went", x.set(0, 3, 0), 0);
    }

    // "HOLDS of FIRST THINGS (.. 0 .. 1000000 each)": great GRAMS neither wrap nor lose any.
    private static void holdsUpToAMillion() {
        OldBronze x = new OldBronze();
        x.thing(0, MOST);
        x.melt(0, 4);
        x.melt(0, 8);
        due.is("all of it", x.crucible(6), 1000000);
        due.is("none of another", x.crucible(7), 0);
        due.is("grams of it", x.crucible(2), MOST);
        x.thing(0, MOST);
        x.paper(1, 0, 8);
        due.is("by a paper", x.by(1, 0, 7), 1000000);
        due.is("by a paper, none", x.by(1, 0, 6), 0);
        x.cast(0, 0, 0);
        due.is("by a cast", x.thingIs(2, 6), 1000000);
    }

    // "(the first 4 of them, numbered 0 .. 3, count: each HOLDS 1000000 of itself; later ones
    // hold nothing)".
    private static void fourFirstThingsCount() {
        OldBronze x = new OldBronze();
        for (int i = 0; i < 6; i++) {
            x.thing(0, 10);
            due.is("so many count", x.count(1), Math.min(4, i + 1));
            for (int first = 0; first < 4; first++) {
                due.is(i + " holds of " + first, x.thingIs(i, 6 + first),
                        i == first ? 1000000 : 0);
            }
        }
    }

    // FIRST THINGS are "those that were told as such", also without GRAMS; refused ones aren't.
    private static void firstThingsWithoutGramsCount() {
        OldBronze x = new OldBronze();
        x.thing(0, 0);
        x.thing(700, 0);
        x.thing(0, MOST + 1);
        due.is("one counts", x.count(1), 1);
        due.is("it holds itself", x.thingIs(0, 6), 1000000);
        x.thing(0, 1);
        due.is("the next one is 1", x.thingIs(1, 7), 1000000);
    }

    // "others come of CASTS".
    private static void castsAreNoFirstThings() {
        OldBronze x = new OldBronze();
        x.thing(0, 100);
        x.melt(0, 8);
        x.cast(0, 0, 50);
        due.is("one counts", x.count(1), 1);
        x.thing(0, 100);
        due.is("two count", x.count(1), 2);
        due.is("thing 3 is first thing 1", x.thingIs(3, 7), 1000000);
    }

    // "A MOVE of so many eighths (1 .. 8)".
    private static void eighthsOfAMove() {
        OldBronze x = new OldBronze();
        x.thing(0, 800);
        x.thing(0, 800);
        due.is("0", x.melt(0, 0), Due.BEYOND);
        due.is("9", x.melt(0, 9), Due.BEYOND);
        due.is("1", x.melt(0, 1), 100);
        due.is("8", x.melt(0, 8), 800);
        due.is("nothing is left", x.thingIs(0, 2), 0);
        due.is("paper 0", x.paper(0, 1, 0), Due.BEYOND);
        due.is("paper 9", x.paper(0, 1, 9), Due.BEYOND);
        due.is("paper 1", x.paper(1, 0, 1), 0);
        due.is("paper 8", x.paper(1, 0, 8), 1);
        due.is("by 1", x.by(1, 0, 2), 100);
        due.is("by 8", x.by(2, 0, 2), 800);
    }

    // "the part is GRAMS times eighths by 8 (cut)".
    private static void partsAreCut() {
        OldBronze x = new OldBronze();
        x.thing(0, 7);
        x.thing(0, 8);
        x.thing(0, 15);
        x.thing(0, MOST);
        due.is("an eighth of 7", x.melt(0, 1), 0);
        due.is("an eighth of 8", x.melt(1, 1), 1);
        due.is("an eighth of 15", x.melt(2, 1), 2);
        due.is("14 are left", x.thingIs(2, 2), 14);
        due.is("7 eighths of 7", x.melt(0, 7), 8);
        due.is("7 eighths of the most", x.melt(3, 7), 8 + 8749999);
        due.is("its rest", x.thingIs(3, 2), 1250000);
    }

    // "each TRACE likewise; the one loses that".
    private static void tracesMoveLikewise() {
        OldBronze x = new OldBronze();
        x.thing(0, 100);
        x.set(0, 3, 7);
        x.set(0, 4, 8);
        x.set(0, 5, 100);
        x.melt(0, 1);
        due.is("of 7", x.crucible(3), 0);
        due.is("of 8", x.crucible(4), 1);
        due.is("of 100", x.crucible(5), 12);
        due.is("7 stay", x.thingIs(0, 3), 7);
        due.is("7 of 8 stay", x.thingIs(0, 4), 7);
        due.is("88 stay", x.thingIs(0, 5), 88);
        x.melt(0, 8);
        for (int what = 3; what <= 5; what++) {
            due.is("none stays", x.thingIs(0, what), 0);
        }
        due.is("all came", x.crucible(5), 100);
    }

    // "(its HOLDS stay)": also where no GRAMS stay.
    private static void holdsOfTheOneStay() {
        OldBronze x = new OldBronze();
        x.thing(0, 800);
        x.melt(0, 8);
        due.is("no grams", x.thingIs(0, 2), 0);
        due.is("its holds", x.thingIs(0, 6), 1000000);
    }

    // "(cut; 0 by 0 GRAMS)".
    private static void noHoldsByNoGrams() {
        OldBronze x = new OldBronze();
        x.thing(0, 0);
        x.thing(0, 7);
        x.paper(1, 0, 1);
        x.paper(0, 1, 8);
        due.is("0 grams into 0 grams", x.by(1, 0, 2), 0);
        due.is("its own are gone", x.by(1, 0, 6), 0);
        due.is("none came", x.by(1, 0, 7), 0);
        due.is("0 grams into some", x.by(2, 1, 7), 1000000);
        x.melt(1, 1);
        due.is("the crucible, too", x.crucible(7), 0);
        x.melt(1, 8);
        x.thing(0, 20000000 / 3);
        x.melt(2, 8);
        // 7 grams of 6666673: 1.0499.. millionths
        due.is("cut", x.crucible(7), 1);
        due.is("cut, too", x.crucible(8), 999998);
    }

    // "GRAMS held at 9999999".
    private static void gramsAreHeld() {
        int[][] sums = {{5000000, 4999998, 9999998}, {5000000, 4999999, MOST},
            {5000000, 5000000, MOST}, {MOST, MOST, MOST}};
        for (int[] sum : sums) {
            OldBronze x = new OldBronze();
            x.thing(0, sum[0]);
            x.thing(0, sum[1]);
            x.paper(0, 1, 8);
            due.is("by a paper", x.by(1, 1, 2), sum[2]);
            due.is("nothing stays", x.by(1, 0, 2), 0);
            x.melt(0, 8);
            due.is("melted", x.melt(1, 8), sum[2]);
            due.is("in the crucible", x.crucible(2), sum[2]);
        }
    }

    // "together by GRAMS of both": ahead of what is held.
    private static void holdsAreByGramsOfBoth() {
        OldBronze x = new OldBronze();
        x.thing(0, MOST);
        x.thing(0, MOST);
        x.thing(0, 5000000);
        x.melt(0, 8);
        x.melt(1, 8);
        due.is("half of both", x.crucible(6), 500000);
        x.melt(2, 8);
        due.is("from what was held", x.crucible(8), 333333);
        due.is("cut", x.crucible(6), 333333);
    }

    // "TRACES no more than GRAMS".
    private static void tracesAreHeld() {
        int[][] sums = {{4999998, 9999998}, {4999999, MOST}, {5000000, MOST}};
        for (int[] sum : sums) {
            for (int what = 3; what <= 5; what++) {
                OldBronze x = new OldBronze();
                x.thing(0, 6000000);
                x.thing(0, 6000000);
                x.set(0, what, 5000000);
                x.set(1, what, sum[0]);
                x.paper(0, 1, 8);
                due.is("by a paper", x.by(1, 1, what), sum[1]);
                x.melt(0, 8);
                x.melt(1, 8);
                due.is("melted", x.crucible(what), sum[1]);
            }
        }
    }

    // melt: "STATE: the THING has no GRAMS."
    private static void meltWithoutGrams() {
        OldBronze x = new OldBronze();
        x.thing(0, 0);
        x.thing(0, 1);
        due.is("no grams", x.melt(0, 8), Due.STATE);
        due.is("a gram, of which nothing comes", x.melt(1, 7), 0);
        due.is("a gram", x.melt(1, 8), 1);
        due.is("no grams any more", x.melt(1, 8), Due.STATE);
    }

    // crucible: "2 GRAMS, 3 .. 5 TRACES, 6 .. 9 HOLDS. BEYOND."
    private static void numbersOfTheCrucible() {
        OldBronze x = new OldBronze();
        for (int i = 0; i < 4; i++) {
            x.thing(0, 100);
            x.melt(i, 8);
        }
        due.is("1", x.crucible(1), Due.BEYOND);
        due.is("2", x.crucible(2), 400);
        due.is("5", x.crucible(5), 0);
        due.is("6", x.crucible(6), 249999);
        due.is("9", x.crucible(9), 250000);
        due.is("10", x.crucible(10), Due.BEYOND);
    }

    private static OldBronze molten(int grams) {
        OldBronze x = new OldBronze();
        x.thing(0, grams);
        x.melt(0, 8);
        return x;
    }

    // "TIN 0 .. 9999 grams".
    private static void tinOfACast() {
        OldBronze x = molten(1);
        due.is("-1", x.cast(0, -1, 0), Due.BEYOND);
        due.is("10000", x.cast(0, 10000, 0), Due.BEYOND);
        due.is("9999", x.cast(0, 9999, 0), 1);
        due.is("its grams", x.thingIs(1, 2), 10000);
        due.is("its tin", x.thingIs(1, 3), 9999);
        due.is("no lead", x.thingIs(1, 4), 0);
        OldBronze y = molten(1);
        due.is("0", y.cast(0, 0, 0), 1);
        due.is("grams as they were", y.thingIs(1, 2), 1);
        due.is("no tin", y.thingIs(1, 3), 0);
    }

    // GRAMS are 0 .. 9999999, and TRACES 0 .. GRAMS, behind the tin as well.
    private static void tinIsHeld() {
        int[][] sums = {{9990000, 9999, MOST}, {9990001, 9999, MOST}, {9990000, 9998, 9999998}};
        for (int[] sum : sums) {
            OldBronze x = new OldBronze();
            x.thing(0, sum[0]);
            x.set(0, 3, sum[0]);
            x.melt(0, 8);
            x.cast(0, sum[1], 0);
            due.is("grams", x.thingIs(1, 2), sum[2]);
            due.is("tin", x.thingIs(1, 3), sum[2]);
        }
    }

    // "HOLDS become HOLDS times GRAMS ahead by GRAMS then, cut".
    private static void holdsFallByTin() {
        int[][] tins = {{0, 1000000}, {1, 857142}, {6, 500000}, {9999, 599}};
        for (int[] tin : tins) {
            OldBronze x = molten(6);
            x.cast(0, tin[0], 0);
            due.is("tin " + tin[0], x.thingIs(1, 6), tin[1]);
        }
    }

    // The same: GRAMS then are held.
    private static void holdsByGramsThen() {
        OldBronze x = molten(MOST);
        x.cast(0, 9999, 0);
        due.is("all of them", x.thingIs(1, 6), 1000000);
        OldBronze y = molten(9995000);
        y.cast(0, 9999, 0);
        due.is("by 9999999", y.thingIs(1, 6), (int) (9995000L * 1000000 / MOST));
    }

    // "BURN 0 .. 9 hundredths"; "loses GRAMS times BURN by 100 (cut), TRACES each likewise".
    private static void burnIsCut() {
        int[][] burns = {{11, 900, 11}, {12, 900, 11}, {99, 100, 99}, {100, 100, 99},
            {1, 900, 1}, {MOST, 900, 9100000}, {100, 0, 100}};
        for (int[] burn : burns) {
            OldBronze x = new OldBronze();
            x.thing(0, burn[0]);
            for (int what = 3; what <= 5; what++) {
                x.set(0, what, burn[0]);
            }
            x.melt(0, 8);
            x.cast(0, 0, burn[1]);
            for (int what = 2; what <= 5; what++) {
                due.is(burn[1] + " of " + burn[0], x.thingIs(1, what), burn[2]);
            }
            due.is("holds stay", x.thingIs(1, 6), 1000000);
        }
    }

    // "KEEP 0 .. 9 tenths"; "GRAMS less GRAMS times KEEP by 10 (cut), TRACES likewise".
    private static void keepIsCut() {
        int[][] keeps = {{1, 90, 0}, {2, 90, 1}, {9, 10, 0}, {10, 10, 1}, {19, 10, 1},
            {MOST, 90, 8999999}};
        for (int[] keep : keeps) {
            OldBronze x = new OldBronze();
            x.thing(0, keep[0]);
            for (int what = 3; what <= 5; what++) {
                x.set(0, what, keep[0]);
            }
            x.melt(0, 8);
            x.cast(0, 0, keep[1]);
            for (int what = 2; what <= 5; what++) {
                due.is("cast", x.thingIs(1, what), keep[0] - keep[2]);
                due.is("kept", x.thingIs(2, what), keep[2]);
            }
            due.is("cast holds", x.thingIs(1, 6), 1000000);
            due.is("kept holds", x.thingIs(2, 6), 1000000);
        }
    }

    // "if KEEP is above 0, one more THING, a SCRAP with m 0, has what was kept".
    private static void scrapAboveKeepNone() {
        OldBronze x = molten(100);
        due.is("keep 0", x.cast(599, 0, 900), 1);
        due.is("no scrap", x.count(0), 2);
        x.melt(1, 8);
        due.is("keep 1", x.cast(599, 0, 10), 2);
        due.is("a scrap", x.count(0), 4);
        due.is("its number is 1 more", x.thingIs(3, 0), 6);
        due.is("its m", x.thingIs(3, 1), 0);
        due.is("kind of the cast one", x.thingIs(2, 0), 5);
        due.is("m of the cast one", x.thingIs(2, 1), 99);
        OldBronze y = molten(1);
        y.cast(0, 0, 90);
        due.is("a scrap without grams", y.count(0), 3);
        due.is("none", y.thingIs(2, 2), 0);
    }

    // "THE CRUCIBLE is empty then."
    private static void theCrucibleIsEmptyThen() {
        OldBronze x = new OldBronze();
        for (int i = 0; i < 4; i++) {
            x.thing(0, 50);
            x.set(i, 3, 50);
            x.set(i, 4, 50);
            x.set(i, 5, 50);
            x.melt(i, 8);
        }
        x.cast(0, 9, 990);
        for (int what = 2; what <= 9; what++) {
            due.is("crucible " + what, x.crucible(what), 0);
        }
        due.is("nothing to cast", x.cast(0, 9, 0), Due.STATE);
    }

    // "law: 100 times BURN, and 10 times KEEP (BURN, KEEP 0 .. 9, the last digit 0)."
    private static void lawOfACast() {
        for (int law = -20; law <= 1020; law++) {
            OldBronze x = molten(1000);
            boolean isLaw = law >= 0 && law <= 990 && law % 10 == 0;
            due.is("law " + law, x.cast(0, 0, law), isLaw ? 1 : Due.BEYOND);
            if (isLaw) {
                int grams = 1000 - 10 * (law / 100);
                int kept = grams * (law / 10 % 10) / 10;
                due.is("grams by law " + law, x.thingIs(1, 2), grams - kept);
                due.is("things by law " + law, x.count(0), law / 10 % 10 > 0 ? 3 : 2);
            }
        }
    }

    // "FULL: no room for the THING, or the SCRAP."
    private static void roomForTheScrap() {
        for (int things = 10; things <= 12; things++) {
            OldBronze x = molten(1000);
            while (x.count(0) < things) {
                x.thing(0, 1);
            }
            due.is("with a scrap, of " + things, x.cast(0, 0, 10),
                    things == 10 ? 10 : Due.FULL);
            due.is("without, of " + things, x.cast(0, 0, 0),
                    things == 10 ? Due.STATE : things == 11 ? 11 : Due.FULL);
        }
    }

    /** A z whose next draw has such a rest by 100. */
    private static int seedOf(int rest) {
        int z = 0;
        while ((z * 1103515245 + 12345 >>> 8) % 100 != rest) {
            z++;
        }
        return z;
    }

    // "a draw's rest by 100 below m: it loses".
    private static void drawsBelowM() {
        int[][] rests = {{0, 0, 100}, {0, 1, 99}, {1, 1, 100}, {49, 49, 100}, {49, 50, 99},
            {97, 98, 99}, {98, 98, 100}, {98, 99, 99}, {99, 99, 100}};
        for (int[] rest : rests) {
            OldBronze x = new OldBronze();
            x.thing(rest[1], 100);
            x.seed(seedOf(rest[0]));
            due.is("rest " + rest[0] + ", m " + rest[1] + ", ahead", x.then(1, 0, 2), rest[2]);
            due.is("rest " + rest[0] + ", m " + rest[1], x.years(1), rest[2]);
        }
    }

    // "it loses a hundredth of its GRAMS (cut; TRACES each likewise)".
    private static void aHundredthIsCut() {
        int[][] losses = {{0, 0}, {1, 1}, {99, 99}, {100, 99}, {199, 198}, {200, 198},
            {MOST, 9900000}};
        for (int[] loss : losses) {
            OldBronze x = new OldBronze();
            x.thing(1, loss[0]);
            for (int what = 3; what <= 5; what++) {
                x.set(0, what, loss[0]);
            }
            x.seed(seedOf(0));
            x.years(1);
            for (int what = 2; what <= 5; what++) {
                due.is("of " + loss[0], x.thingIs(0, what), loss[1]);
            }
            due.is("holds stay", x.thingIs(0, 6), 1000000);
        }
    }

    // "THINGS by numbers (each, also of 0 GRAMS)": one draw each.
    private static void thingsWithoutGramsDraw() {
        int z = 5;
        OldBronze x = new OldBronze();
        x.seed(z);
        x.years(60);
        due.is("no things, no draws", x.count(10), z);
        x.thing(0, 0);
        x.thing(99, 0);
        x.thing(0, 9);
        x.years(1);
        for (int i = 0; i < 3; i++) {
            z = z * 1103515245 + 12345;
        }
        due.is("three draws", x.count(10), z);
    }

    // "n (1 .. 60) YEARS".
    private static void yearsAtOnce() {
        OldBronze x = new OldBronze();
        x.thing(0, 5);
        due.is("-1", x.years(-1), Due.BEYOND);
        due.is("0", x.years(0), Due.BEYOND);
        due.is("61", x.years(61), Due.BEYOND);
        due.is("none went by", x.count(6), 0);
        due.is("1", x.years(1), 5);
        due.is("1 went by", x.count(6), 1);
        due.is("60", x.years(60), 5);
        due.is("61 went by", x.count(6), 61);
    }

    // "YEARS so far (0 .. 9999)"; "STATE: YEARS would be above 9999."
    private static void yearsUpTo9999() {
        OldBronze x = new OldBronze();
        for (int i = 0; i < 166; i++) {
            x.years(60);
        }
        due.is("9960 and 40", x.years(40), Due.STATE);
        due.is("9960 and 38", x.years(38), 0);
        due.is("9998 and 2", x.years(2), Due.STATE);
        due.is("9998 and 1", x.years(1), 0);
        due.is("9999", x.count(6), 9999);
        due.is("9999 and 1", x.years(1), Due.STATE);
        due.is("9999 and 61", x.years(61), Due.BEYOND);
        x.image();
        due.is("restored in 9999", x.restore(), 9999);
    }

    // "AHEAD by n (0 .. 60) YEARS: as they would go by."
    private static void yearsAhead() {
        OldBronze x = new OldBronze();
        x.thing(50, 90000);
        x.thing(50, 80000);
        due.is("-1", x.then(-1, 0, 2), Due.BEYOND);
        due.is("0", x.then(0, 0, 2), 90000);
        due.is("61", x.then(61, 0, 2), Due.BEYOND);
        int first = x.then(60, 0, 2);
        int second = x.then(60, 1, 2);
        due.is("none went by", x.count(6) + x.thingIs(0, 2), 90000);
        due.is("as they go by", x.years(60), first + second);
        due.is("of the first", x.thingIs(0, 2), first);
    }

    // then: "of a THING what (0 .. 10) as in thingIs(). BEYOND."
    private static void whatOfYearsAhead() {
        OldBronze x = new OldBronze();
        due.is("no things", x.then(0, 0, 0), Due.BEYOND);
        x.thing(142, 70);
        x.set(0, 5, 3);
        for (int n = 0; n <= 60; n += 60) {
            for (int what = -1; what <= 11; what++) {
                boolean isThere = what >= 0 && what <= 10;
                due.is("what " + what, x.then(n, 0, what),
                        isThere ? x.thingIs(0, what) : Due.BEYOND);
            }
            due.is("thing -1", x.then(n, -1, 0), Due.BEYOND);
            due.is("thing 1", x.then(n, 1, 0), Due.BEYOND);
        }
    }

    // The same: YEARS so far bound what goes by, not what would.
    private static void aheadOf9999() {
        OldBronze x = new OldBronze();
        x.thing(99, 1000);
        for (int i = 0; i < 166; i++) {
            x.years(60);
        }
        x.years(39);
        x.melt(0, 8);
        x.cast(99, 9999, 0);
        due.is("60 ahead of 9999", x.then(60, 1, 2) < x.thingIs(1, 2) ? 1 : 0, 1);
        due.is("60 ahead, its kind", x.then(60, 1, 0), 0);
    }

    // "each makes it z * 1103515245 + 12345 (an int), and gives z >>> 8".
    private static void drawsWrap() {
        for (int z : new int[] {1, 0, -1, GREATEST, LEAST}) {
            OldBronze x = new OldBronze();
            x.thing(0, 100);
            x.seed(z);
            x.years(1);
            int drawn = (int) ((long) z * 1103515245L + 12345L);
            due.is("from " + z, x.count(10), drawn);
            int rest = (int) ((drawn & 0xffffffffL) / 256 % 100);
            OldBronze y = new OldBronze();
            y.thing(rest, 100);
            y.thing(Math.min(99, rest + 1), 0);
            y.seed(z);
            due.is("its rest isn't below", y.then(1, 0, 2), 100);
            y.set(0, 1, Math.min(99, rest + 1));
            due.is("its rest is below", y.then(1, 0, 2), rest < 99 ? 99 : 100);
        }
    }

    // seed: "z becomes v: what it was (any number)."
    private static void anySeed() {
        OldBronze x = new OldBronze();
        int was = 1;
        for (int v : new int[] {0, -1, LEAST, GREATEST, Due.BEYOND, Due.PARTED, 1}) {
            due.is("seed " + v, x.seed(v), was);
            due.is("z is " + v, x.count(10), v);
            was = v;
        }
        for (int k = 1; k <= 6; k++) {
            due.is("no ERROR", x.told(k), 0);
        }
    }

    // "s tin in thousandths of GRAMS (cut; 0 of 0 GRAMS)": TONE without GRAMS, of each KIND.
    private static void tonesOfNoGrams() {
        int[] tones = {1000, 1050, 550, 900, 1150, 550, -900};
        for (int kind = 0; kind < 7; kind++) {
            OldBronze x = new OldBronze();
            x.thing(100 * kind + 50, 0);
            due.is("tone of kind " + kind, x.thingIs(0, 10), tones[kind]);
        }
    }

    // TONES: "half of as THING (cut)", "GRAMS by 1000" (cut), at both ends of tin and m.
    private static void tonesAreCut() {
        int[][] tones = {
            {0, 3, 1, 667}, {0, 3, 3, 0}, {0, MOST, 1, 1000}, {0, MOST, 10000, 999},
            {200, 1000, 1, 499}, {200, 1000, 0, 500}, {299, 1000, 1000, 99},
            {399, 5, 5, -198}, {300, 5, 5, 0}, {699, 5, 5, 198}, {699, 5, 0, -802},
            {500, 999, 0, 500}, {500, 1000, 0, 501}, {599, MOST, 0, 500 + 99 + 9999},
            {199, 9, 0, 1099}, {100, 9, 9, 0}, {499, 9, 0, 1297}, {400, 9, 9, 0},
        };
        for (int[] t : tones) {
            OldBronze x = new OldBronze();
            x.thing(t[0], t[1]);
            x.set(0, 3, t[2]);
            due.is("tone of " + t[0] + ", " + t[1] + " grams, tin " + t[2], x.thingIs(0, 10),
                    t[3]);
        }
    }
}
