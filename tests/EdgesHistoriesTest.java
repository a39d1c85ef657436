/** Terms 3 and promises 19 to 26: the sentences that name a bound, each with a test of its own. */
public final class EdgesHistoriesTest {
    private static final int MOST = 9999999;

    private static final Due due = new Due();

    public static void main(String[] args) {
        atMostSixPapers();
        papersOfAnotherOne();
        papersOfThingsThatAre();
        atMostEightWeighings();
        gramsOfAWeighing();
        slipOfAWeighing();
        slipOnBothSides();
        slipOfTheEnds();
        allWeighingsAreSo();
        forgettingWhat();
        forgettingMakesRoom();
        historiesOfNoPapers();
        historiesOfSixPapers();
        historiesByNumbers();
        papersWithoutGrams();
        papersAreHeld();
        historiesChangeNothing();
        fromAllAsItIs();
        whatOfBy();
        oneFitsWithoutPapers();
        noneFits();
        surelyAndMaybe();
        leastAsBits();
        falseOnes();
        spanOfOneFit();
        spanOfWeighedFits();
        spanOfEachFirstThing();
        whatOfSpan();
        nextWithoutThings();
        nextOfOneThing();
        nextOfSeveralTheLeast();
        nextWhoseHeapIsLeast();
        mostByNone();
        mostWithoutAny();
        mostOfThoseWithGrams();
        mostOfSeveralFewest();
        mostOfSeveralLeastAsBits();
        mostOfTheLastThing();
        whatOfMost();
        due.end();
    }

    private static OldBronze made(int... grams) {
        OldBronze x = new OldBronze();
        for (int of : grams) {
            x.thing(0, of);
        }
        return x;
    }

    // "LOST PAPERS 0, 1, .. (at most 6)"; "FULL."
    private static void atMostSixPapers() {
        OldBronze x = made(8, 8);
        for (int i = 0; i < 6; i++) {
            due.is("paper", x.paper(0, 1, 8), i);
        }
        due.is("a 7th", x.paper(0, 1, 8), Due.FULL);
        due.is("six", x.count(3), 6);
        due.is("a 7th that is wrong", x.paper(0, 1, 9), Due.BEYOND);
    }

    // "THING into, another one"; "BEYOND: also from and into are one."
    private static void papersOfAnotherOne() {
        OldBronze x = made(8, 8);
        due.is("0 into 0", x.paper(0, 0, 1), Due.BEYOND);
        due.is("1 into 1", x.paper(1, 1, 8), Due.BEYOND);
        due.is("0 into 1", x.paper(0, 1, 1), 0);
        due.is("1 into 0", x.paper(1, 0, 1), 1);
    }

    // THINGS from and into are 0, 1, .. as many as there are.
    private static void papersOfThingsThatAre() {
        OldBronze x = made(8, 8, 0);
        due.is("from -1", x.paper(-1, 0, 1), Due.BEYOND);
        due.is("from 3", x.paper(3, 0, 1), Due.BEYOND);
        due.is("into -1", x.paper(0, -1, 1), Due.BEYOND);
        due.is("into 3", x.paper(0, 3, 1), Due.BEYOND);
        due.is("from 2", x.paper(2, 0, 1), 0);
        due.is("into 2", x.paper(0, 2, 1), 1);
    }

    // "WEIGHINGS 0, 1, .. (at most 8)"; "FULL."
    private static void atMostEightWeighings() {
        OldBronze x = made(8);
        for (int i = 0; i < 8; i++) {
            due.is("weighing", x.weigh(0, 8, 0), i);
        }
        due.is("a 9th", x.weigh(0, 9, 0), Due.FULL);
        due.is("eight", x.count(4), 8);
        due.is("all are so", x.fits(0), 1);
        due.is("a 9th that is wrong", x.weigh(0, -1, 0), Due.BEYOND);
    }

    // "a THING has so many GRAMS (0 .. 9999999)".
    private static void gramsOfAWeighing() {
        OldBronze x = made(8);
        due.is("-1", x.weigh(0, -1, 0), Due.BEYOND);
        due.is("10000000", x.weigh(0, MOST + 1, 0), Due.BEYOND);
        due.is("0", x.weigh(0, 0, 0), 0);
        due.is("9999999", x.weigh(0, MOST, 0), 1);
        due.is("thing -1", x.weigh(-1, 0, 0), Due.BEYOND);
        due.is("thing 1", x.weigh(1, 0, 0), Due.BEYOND);
    }

    // "SLIP (0 .. 99)".
    private static void slipOfAWeighing() {
        OldBronze x = made(8);
        due.is("-1", x.weigh(0, 8, -1), Due.BEYOND);
        due.is("100", x.weigh(0, 8, 100), Due.BEYOND);
        due.is("0", x.weigh(0, 8, 0), 0);
        due.is("99", x.weigh(0, 8, 99), 1);
    }

    // "SLIP .. more or less at most".
    private static void slipOnBothSides() {
        int[][] slips = {{500, 0, 1}, {501, 0, 0}, {499, 0, 0}, {501, 1, 1}, {499, 1, 1},
            {502, 1, 0}, {498, 1, 0}, {599, 99, 1}, {401, 99, 1}, {600, 99, 0}, {400, 99, 0}};
        for (int[] slip : slips) {
            OldBronze x = made(500);
            x.weigh(0, slip[0], slip[1]);
            due.is("500 as " + slip[0] + " by " + slip[1], x.fits(0), slip[2]);
        }
    }

    // The same, where GRAMS more or less lie beyond 0 .. 9999999.
    private static void slipOfTheEnds() {
        int[][] slips = {{0, 0, 99, 1}, {0, 99, 99, 1}, {0, 100, 99, 0}, {99, 0, 99, 1},
            {100, 0, 99, 0}, {MOST, MOST, 99, 1}, {MOST, MOST - 99, 99, 1},
            {MOST, MOST - 100, 99, 0}, {MOST - 99, MOST, 99, 1}, {0, MOST, 99, 0}};
        for (int[] slip : slips) {
            OldBronze x = made(slip[0]);
            x.weigh(0, slip[1], slip[2]);
            due.is(slip[0] + " as " + slip[1], x.fits(0), slip[3]);
        }
    }

    // "FITS: HISTORIES by which all WEIGHINGS are so."
    private static void allWeighingsAreSo() {
        OldBronze x = made(800, 800, 800);
        x.paper(0, 1, 4);
        x.paper(1, 2, 4);
        due.is("without weighings", x.fits(0), 4);
        x.weigh(1, 1200, 0);
        due.is("the first paper alone", x.fits(1), 1);
        due.is("but one", x.fits(0), 1);
        x.weigh(2, 800, 0);
        due.is("by both weighings", x.fits(0), 1);
        x.weigh(0, 800, 0);
        due.is("not by the third", x.fits(0), 0);
    }

    // forget: "LOST PAPERS (what 0), WEIGHINGS (1) are forgotten: how many there were. BEYOND."
    private static void forgettingWhat() {
        OldBronze x = made(8, 8);
        due.is("-1", x.forget(-1), Due.BEYOND);
        due.is("2", x.forget(2), Due.BEYOND);
        due.is("no papers", x.forget(0), 0);
        due.is("no weighings", x.forget(1), 0);
        x.paper(0, 1, 1);
        x.weigh(0, 8, 0);
        x.weigh(0, 8, 0);
        due.is("papers", x.forget(0), 1);
        due.is("weighings stay", x.count(4), 2);
        x.paper(0, 1, 1);
        due.is("weighings", x.forget(1), 2);
        due.is("papers stay", x.count(3), 1);
    }

    // The same: behind it there is room for all again.
    private static void forgettingMakesRoom() {
        OldBronze x = made(64, 64);
        for (int i = 0; i < 6; i++) {
            x.paper(0, 1, 1);
        }
        for (int i = 0; i < 8; i++) {
            x.weigh(0, 1, 0);
        }
        due.is("six were", x.forget(0), 6);
        due.is("eight were", x.forget(1), 8);
        for (int i = 0; i < 6; i++) {
            due.is("paper again", x.paper(1, 0, 8), i);
        }
        for (int i = 0; i < 8; i++) {
            due.is("weighing again", x.weigh(0, 64, 0), i);
        }
        due.is("a 7th again", x.paper(1, 0, 8), Due.FULL);
        due.is("a 9th again", x.weigh(0, 64, 0), Due.FULL);
        due.is("the new ones count", x.by(63, 0, 2), 128);
    }

    // "A HISTORY is a set of them": without LOST PAPERS only the empty one.
    private static void historiesOfNoPapers() {
        OldBronze x = made(8);
        due.is("-1", x.by(-1, 0, 2), Due.BEYOND);
        due.is("0", x.by(0, 0, 2), 8);
        due.is("1", x.by(1, 0, 2), Due.BEYOND);
    }

    // The same, of one to six LOST PAPERS.
    private static void historiesOfSixPapers() {
        OldBronze x = made(6400, 0);
        for (int papers = 1; papers <= 6; papers++) {
            x.paper(0, 1, 1);
            due.is("as many as sets", x.fits(0), 1 << papers);
            due.is("the last one is a set", x.by((1 << papers) - 1, 0, 2) >= 0 ? 1 : 0, 1);
            due.is("the next one isn't", x.by(1 << papers, 0, 2), Due.BEYOND);
            due.is("nor is -1", x.by(-1, 0, 2), Due.BEYOND);
        }
        due.is("nor the greatest int", x.by(Integer.MAX_VALUE, 0, 2), Due.BEYOND);
        due.is("nor the least int", x.by(Integer.MIN_VALUE, 0, 2), Due.BEYOND);
    }

    // "the MOVES of these by numbers".
    private static void historiesByNumbers() {
        OldBronze x = made(800, 0, 0);
        x.paper(0, 1, 8);
        x.paper(1, 2, 8);
        due.is("0 into 1 into 2", x.by(3, 2, 2), 800);
        OldBronze y = made(800, 0, 0);
        y.paper(1, 2, 8);
        y.paper(0, 1, 8);
        due.is("1 into 2, then 0 into 1", y.by(3, 2, 2), 0);
        due.is("it stays in 1", y.by(3, 1, 2), 800);
    }

    // A MOVE of a THING without GRAMS is one, too: "0 by 0 GRAMS".
    private static void papersWithoutGrams() {
        OldBronze x = made(0, 0, 9);
        due.is("of no grams", x.paper(0, 1, 8), 0);
        x.paper(0, 2, 8);
        due.is("no grams came", x.by(1, 1, 2), 0);
        due.is("holds are 0", x.by(1, 1, 7), 0);
        due.is("holds of the one stay", x.by(1, 0, 6), 1000000);
        due.is("into some nothing comes", x.by(2, 2, 8), 1000000);
    }

    // "GRAMS held at 9999999; TRACES no more than GRAMS".
    private static void papersAreHeld() {
        OldBronze x = made(MOST, MOST, MOST);
        x.set(0, 5, MOST);
        x.set(1, 5, MOST);
        x.paper(0, 1, 8);
        x.paper(2, 1, 8);
        due.is("grams", x.by(3, 1, 2), MOST);
        due.is("silver", x.by(1, 1, 5), MOST);
        due.is("half", x.by(1, 1, 6), 500000);
        due.is("a quarter", x.by(3, 1, 6), 250000);
        due.is("half of the last", x.by(3, 1, 8), 500000);
        due.is("all went", x.by(3, 0, 2) + x.by(3, 2, 2), 0);
        x.weigh(1, MOST, 0);
        due.is("weighed as held", x.fits(0), 4);
    }

    // Nothing goes by that may not have been.
    private static void historiesChangeNothing() {
        OldBronze x = made(800, 0);
        x.paper(0, 1, 8);
        x.by(1, 0, 2);
        x.fits(0);
        x.span(1, 0, 1);
        x.next();
        due.is("grams", x.thingIs(0, 2), 800);
        due.is("holds", x.thingIs(1, 7), 1000000);
        due.is("all grams", x.count(5), 800);
    }

    // "from all as it is".
    private static void fromAllAsItIs() {
        OldBronze x = made(800, 0);
        x.paper(0, 1, 8);
        x.weigh(1, 800, 0);
        due.is("it was", x.fits(1), 1);
        x.melt(0, 4);
        due.is("by 400", x.by(1, 1, 2), 400);
        due.is("none fits", x.fits(0), 0);
        x.melt(0, 8);
        due.is("by none", x.by(1, 1, 2), 0);
        due.is("things that came later", x.by(1, 2, 2), Due.BEYOND);
        x.thing(0, 5);
        due.is("are there, too", x.by(1, 2, 2), 5);
    }

    // by: "what (2 .. 9) as in thingIs()".
    private static void whatOfBy() {
        OldBronze x = made(800, 800);
        x.set(0, 3, 8);
        x.set(0, 4, 16);
        x.set(0, 5, 24);
        x.paper(0, 1, 1);
        int[] want = {Due.BEYOND, Due.BEYOND, Due.BEYOND, 900, 1, 2, 3, 111111, 888888, 0, 0,
            Due.BEYOND, Due.BEYOND};
        for (int what = -1; what <= 11; what++) {
            due.is("what " + what, x.by(1, 1, what), want[what + 1]);
        }
        due.is("thing -1", x.by(1, -1, 2), Due.BEYOND);
        due.is("thing 2", x.by(1, 2, 2), Due.BEYOND);
    }

    // "FITS", "the least as bits", "SURELY", "MAYBE", "FALSE" of the empty set alone.
    private static void oneFitsWithoutPapers() {
        OldBronze x = new OldBronze();
        int[] want = {1, 0, 0, 0, 0};
        for (int what = 0; what <= 4; what++) {
            due.is("without things, what " + what, x.fits(what), want[what]);
        }
        x.thing(0, 5);
        x.weigh(0, 5, 0);
        for (int what = 0; what <= 4; what++) {
            due.is("without papers, what " + what, x.fits(what), want[what]);
        }
        due.is("what -1", x.fits(-1), Due.BEYOND);
        due.is("what 5", x.fits(5), Due.BEYOND);
    }

    // "1 the least as bits (NONE: none), 2 SURELY (all, if none FITS), 3 MAYBE, 4 FALSE (NONE:
    // none)".
    private static void noneFits() {
        for (int papers = 0; papers <= 6; papers++) {
            OldBronze x = made(8, 8);
            for (int i = 0; i < papers; i++) {
                x.paper(0, 1, 1);
            }
            x.weigh(0, 999, 0);
            int[] want = {0, Due.NONE, (1 << papers) - 1, 0, Due.NONE};
            for (int what = 0; what <= 4; what++) {
                due.is("none of " + papers + ", what " + what, x.fits(what), want[what]);
            }
            due.is("told twice", x.told(2), 2);
            due.is("span", x.span(0, 0, 0), Due.NONE);
            due.is("next", x.next(), Due.NONE);
            due.is("beyond ahead of none", x.fits(5), Due.BEYOND);
        }
    }

    // "SURELY, MAYBE: LOST PAPERS that are in all FITS, in any."
    private static void surelyAndMaybe() {
        OldBronze x = made(800, 0, 800, 0);
        x.paper(0, 1, 4);
        x.paper(2, 3, 8);
        x.paper(0, 1, 4);
        due.is("all fit: surely", x.fits(2), 0);
        due.is("all fit: maybe", x.fits(3), 7);
        x.weigh(3, 800, 0);
        due.is("the second surely", x.fits(2), 2);
        due.is("the others maybe", x.fits(3), 7);
        x.weigh(0, 400, 0);
        due.is("either of the others", x.fits(2), 2);
        due.is("both maybe", x.fits(3), 7);
        x.forget(1);
        x.weigh(3, 0, 0);
        due.is("the second not", x.fits(3), 5);
        x.weigh(0, 800, 0);
        due.is("none at all, surely", x.fits(2), 0);
        due.is("none at all, maybe", x.fits(3), 0);
        x.forget(1);
        x.weigh(0, 200, 0);
        x.weigh(3, 800, 0);
        due.is("all, surely", x.fits(2), 7);
    }

    // "1 the least as bits".
    private static void leastAsBits() {
        OldBronze x = made(800, 0);
        x.paper(0, 1, 2);
        x.paper(0, 1, 2);
        x.paper(0, 1, 4);
        due.is("the empty one", x.fits(1), 0);
        x.weigh(0, 400, 50);
        // behind 3 they are 450, behind 4 they are 400
        due.is("3 ahead of 4", x.fits(1), 3);
        x.forget(1);
        x.weigh(0, 400, 0);
        due.is("4", x.fits(1), 4);
        x.forget(1);
        x.weigh(0, 225, 0);
        due.is("the last", x.fits(1), 7);
    }

    // "FALSE: how many LOST PAPERS at least aren't in a HISTORY that FITS".
    private static void falseOnes() {
        OldBronze x = made(800, 0, 800, 0);
        x.paper(0, 1, 8);
        x.paper(0, 1, 8);
        x.paper(2, 3, 8);
        due.is("all may be", x.fits(4), 0);
        x.weigh(3, 0, 0);
        due.is("the last isn't", x.fits(4), 1);
        x.weigh(1, 0, 0);
        due.is("none is", x.fits(4), 3);
        OldBronze y = made(800, 0);
        y.paper(0, 1, 4);
        y.paper(0, 1, 2);
        y.paper(0, 1, 2);
        y.paper(0, 1, 2);
        y.weigh(0, 400, 60);
        // the first alone, or two of the others: 450
        due.is("the most of them", y.fits(4), 2);
        due.is("the least has one", y.fits(1), 1);
    }

    // "SPAN: the least, the greatest HOLDS": both the same by one FIT.
    private static void spanOfOneFit() {
        OldBronze x = made(800, 0);
        for (int greatest = 0; greatest <= 1; greatest++) {
            due.is("its own", x.span(0, 0, greatest), 1000000);
            due.is("of another", x.span(0, 1, greatest), 0);
        }
        x.paper(0, 1, 8);
        x.weigh(0, 0, 0);
        for (int greatest = 0; greatest <= 1; greatest++) {
            due.is("of 0 in 1", x.span(1, 0, greatest), 1000000);
            due.is("of 1 in 1", x.span(1, 1, greatest), 0);
        }
    }

    // "behind FITS": of HISTORIES that don't fit none counts.
    private static void spanOfWeighedFits() {
        OldBronze x = made(800, 800);
        x.paper(0, 1, 2);
        x.paper(0, 1, 4);
        // thing 1 has 800, 1000, 1200, 1300 with 0, 200000, 333333, 384615 of 0
        int[] holds = {0, 200000, 333333, 384615};
        int[] grams = {800, 1000, 1200, 1300};
        for (int low = 0; low < 4; low++) {
            OldBronze y = made(800, 800);
            y.paper(0, 1, 2);
            y.paper(0, 1, 4);
            y.weigh(1, grams[low], 0);
            due.is("behind " + low, y.span(1, 0, 0), holds[low]);
            due.is("behind " + low + ", too", y.span(1, 0, 1), holds[low]);
        }
        due.is("the least", x.span(1, 0, 0), 0);
        due.is("the greatest", x.span(1, 0, 1), 384615);
        x.weigh(1, 1099, 99);
        due.is("the least of two", x.span(1, 0, 0), 200000);
        due.is("the greatest of two", x.span(1, 0, 1), 200000);
        x.forget(1);
        x.weigh(1, 1100, 99);
        due.is("none between", x.span(1, 0, 0), Due.NONE);
        x.forget(1);
        x.weigh(1, 1250, 50);
        due.is("the least of the last", x.span(1, 0, 0), 333333);
        due.is("the greatest of the last", x.span(1, 0, 1), 384615);
    }

    // "of a FIRST THING", 0 .. 3 each.
    private static void spanOfEachFirstThing() {
        OldBronze x = made(800, 800, 800, 800, 800);
        for (int from = 0; from < 4; from++) {
            x.paper(from, 4, 8);
        }
        for (int first = 0; first < 4; first++) {
            due.is("the least of " + first, x.span(4, first, 0), 0);
            // the last of the four came to 800 alone, each other one to more
            due.is("the greatest of " + first, x.span(4, first, 1), 500000);
            due.is("its own", x.span(first, first, 0), 1000000);
        }
    }

    // "BEYOND: THING, FIRST THING 0 .. 3."
    private static void whatOfSpan() {
        OldBronze x = made(8);
        due.is("thing -1", x.span(-1, 0, 0), Due.BEYOND);
        due.is("thing 1", x.span(1, 0, 0), Due.BEYOND);
        due.is("first -1", x.span(0, -1, 0), Due.BEYOND);
        due.is("first 3, that isn't told yet", x.span(0, 3, 0), 0);
        due.is("first 4", x.span(0, 4, 0), Due.BEYOND);
        due.is("greatest -1", x.span(0, 0, -1), Due.BEYOND);
        due.is("greatest 2", x.span(0, 0, 2), Due.BEYOND);
    }

    // next: "NONE: none FITS, or there are no THINGS."
    private static void nextWithoutThings() {
        OldBronze x = new OldBronze();
        due.is("no things", x.next(), Due.NONE);
        x.thing(0, 5);
        due.is("one", x.next(), 0);
        x.weigh(0, 6, 0);
        due.is("none fits", x.next(), Due.NONE);
        due.is("told twice", x.told(2), 2);
    }

    // "NEXT: the THING that, weighed too, parts FITS best": of one THING, of one FIT.
    private static void nextOfOneThing() {
        OldBronze x = made(0, 0);
        due.is("one fit", x.next(), 0);
        x.paper(0, 1, 8);
        due.is("two fits that none parts", x.next(), 0);
    }

    // "of several the least".
    private static void nextOfSeveralTheLeast() {
        OldBronze x = made(5, 800, 800, 800, 800);
        x.paper(3, 4, 8);
        due.is("3 and 4 part", x.next(), 3);
        x.paper(1, 2, 8);
        due.is("1, 2, 3, 4 part alike", x.next(), 1);
        x.weigh(1, 800, 0);
        due.is("3 and 4 part, again", x.next(), 3);
    }

    // "whose greatest heap of FITS with like GRAMS is least".
    private static void nextWhoseHeapIsLeast() {
        OldBronze x = made(800, 0, 0);
        x.paper(0, 1, 8);
        x.paper(0, 1, 8);
        x.paper(0, 2, 8);
        // thing 0: 800, else 0 (heaps 1, 7); 1: 0 or 800 (2, 6); 2: 800 once (1, 7)
        due.is("6 is less than 7", x.next(), 1);
        x.weigh(1, 0, 0);
        due.is("one and one each", x.next(), 0);
        OldBronze y = made(800, 8, 0, 8000);
        y.paper(0, 2, 4);
        y.paper(3, 2, 4);
        y.paper(3, 2, 4);
        // thing 0: 4, 4; thing 2: 0, 400, 4000, 4400 (twice each), 6000, 6400; thing 3: 2, 4, 2
        due.is("heaps of two", y.next(), 2);
        y.weigh(0, 400, 0);
        due.is("thing 2 or 3: the least", y.next(), 2);
    }

    // "MOST of a FIRST THING by n (0 .. 3)": by 0 none.
    private static void mostByNone() {
        OldBronze x = made(8);
        due.is("-1", x.most(0, -1, 0), Due.BEYOND);
        due.is("0", x.most(0, 0, 0), 0);
        due.is("0, holds", x.most(0, 0, 1), 0);
        due.is("1", x.most(0, 1, 0), 1);
        due.is("3", x.most(0, 3, 0), 1);
        due.is("3, holds", x.most(0, 3, 1), 1000000);
        due.is("4", x.most(0, 4, 0), Due.BEYOND);
    }

    // "(0 without any)": the empty set has the fewest THINGS where none holds any.
    private static void mostWithoutAny() {
        OldBronze x = new OldBronze();
        due.is("no things", x.most(0, 3, 0), 0);
        due.is("no things, holds", x.most(0, 3, 1), 0);
        x.thing(0, 8);
        due.is("none of the second", x.most(1, 3, 0), 0);
        due.is("none of the second, holds", x.most(1, 3, 1), 0);
    }

    // "THINGS that have GRAMS".
    private static void mostOfThoseWithGrams() {
        OldBronze x = made(0, 8);
        due.is("it holds itself, without grams", x.most(0, 3, 0), 0);
        due.is("it holds itself, without grams: none", x.most(0, 3, 1), 0);
        x.paper(1, 0, 8);
        x.melt(1, 8);
        due.is("all are in the crucible", x.most(1, 3, 0), 0);
        x.cast(0, 2, 0);
        due.is("the cast one", x.most(1, 3, 0), 4);
        due.is("the cast one, holds", x.most(1, 3, 1), 800000);
    }

    // "of several with fewest THINGS".
    private static void mostOfSeveralFewest() {
        OldBronze x = new OldBronze();
        x.thing(0, 100);
        x.melt(0, 4);
        x.cast(0, 0, 50);
        // things 0, 1, 2 all hold 1000000 of it
        for (int n = 1; n <= 3; n++) {
            due.is("one of three by " + n, x.most(0, n, 0), 1);
            due.is("one of three by " + n + ", holds", x.most(0, n, 1), 1000000);
        }
    }

    // "then the least as bits".
    private static void mostOfSeveralLeastAsBits() {
        OldBronze x = new OldBronze();
        x.thing(0, 100);
        x.thing(0, 100);
        x.melt(1, 8);
        x.melt(0, 8);
        x.cast(0, 0, 50);
        // things 2 and 3 hold 500000 of each
        due.is("the first of both", x.most(0, 1, 0), 4);
        due.is("of the other one, too", x.most(1, 3, 0), 4);
        x.melt(2, 8);
        due.is("the second then", x.most(1, 3, 0), 8);
    }

    // THINGS 0 .. 11 as bits.
    private static void mostOfTheLastThing() {
        OldBronze x = made(9, 9, 9, 0, 9, 9, 9, 9, 9, 9, 9);
        x.melt(0, 8);
        x.cast(0, 0, 0);
        due.is("thing 11", x.most(0, 1, 0), 2048);
        due.is("thing 11 by 3", x.most(0, 3, 0), 2048);
        due.is("its holds", x.most(0, 3, 1), 1000000);
        due.is("thing 3 has no grams", x.most(3, 3, 0), 0);
    }

    // "what 0 the set, 1 HOLDS together. BEYOND."
    private static void whatOfMost() {
        OldBronze x = made(8);
        due.is("what -1", x.most(0, 0, -1), Due.BEYOND);
        due.is("what 2", x.most(0, 0, 2), Due.BEYOND);
        due.is("first -1", x.most(-1, 0, 0), Due.BEYOND);
        due.is("first 3", x.most(3, 0, 0), 0);
        due.is("first 4", x.most(4, 0, 0), Due.BEYOND);
    }
}
