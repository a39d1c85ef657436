/** Promises 19 to 26: lost papers, weighings, the histories that fit, MOST. */
public final class HistoriesTest {
    private static final Due due = new Due();

    public static void main(String[] args) {
        papers();
        weighings();
        forgetting();
        behind();
        behindErrors();
        fitting();
        fittingErrors();
        spans();
        nextToWeigh();
        most();
        mostErrors();
        due.end();
    }

    private static OldBronze three() {
        OldBronze x = new OldBronze();
        x.thing(100, 800);
        x.thing(200, 1600);
        x.thing(300, 0);
        return x;
    }

    private static void papers() {
        OldBronze x = three();
        due.is("from -1", x.paper(-1, 0, 1), Due.BEYOND);
        due.is("from 3", x.paper(3, 0, 1), Due.BEYOND);
        due.is("into -1", x.paper(0, -1, 1), Due.BEYOND);
        due.is("into 3", x.paper(0, 3, 1), Due.BEYOND);
        due.is("into itself", x.paper(1, 1, 1), Due.BEYOND);
        due.is("0 eighths", x.paper(0, 1, 0), Due.BEYOND);
        due.is("9 eighths", x.paper(0, 1, 9), Due.BEYOND);
        for (int i = 0; i < 6; i++) {
            due.is("paper " + i, x.paper(i % 3, (i + 1) % 3, i + 1), i);
        }
        due.is("a 7th", x.paper(0, 1, 8), Due.FULL);
        due.is("BEYOND ahead of FULL", x.paper(0, 0, 8), Due.BEYOND);
        due.is("six", x.count(3), 6);
        due.is("64 histories", x.fits(0), 64);
        due.is("the last of them", x.by(63, 0, 1), Due.BEYOND);
        due.is("nothing moved", x.thingIs(0, 2), 800);
    }

    private static void weighings() {
        OldBronze x = three();
        due.is("thing -1", x.weigh(-1, 0, 0), Due.BEYOND);
        due.is("thing 3", x.weigh(3, 0, 0), Due.BEYOND);
        due.is("grams -1", x.weigh(0, -1, 0), Due.BEYOND);
        due.is("grams 10000000", x.weigh(0, 10000000, 0), Due.BEYOND);
        due.is("slip -1", x.weigh(0, 0, -1), Due.BEYOND);
        due.is("slip 100", x.weigh(0, 0, 100), Due.BEYOND);
        for (int i = 0; i < 8; i++) {
            due.is("weighing " + i, x.weigh(0, i == 7 ? 9999999 : 701 + 28 * i, 99), i);
        }
        due.is("a 9th", x.weigh(0, 0, 0), Due.FULL);
        due.is("BEYOND ahead of FULL", x.weigh(3, 0, 0), Due.BEYOND);
        due.is("eight", x.count(4), 8);
    }

    private static void forgetting() {
        OldBronze x = three();
        x.paper(0, 1, 1);
        x.paper(0, 1, 2);
        x.weigh(0, 0, 0);
        due.is("what 2", x.forget(2), Due.BEYOND);
        due.is("what -1", x.forget(-1), Due.BEYOND);
        due.is("weighings", x.forget(1), 1);
        due.is("none", x.count(4), 0);
        due.is("none, again", x.forget(1), 0);
        due.is("papers stay", x.count(3), 2);
        due.is("all fit", x.fits(0), 4);
        due.is("papers", x.forget(0), 2);
        due.is("one history", x.fits(0), 1);
        due.is("papers again", x.paper(1, 2, 8), 0);
        due.is("they are new ones", x.by(1, 2, 2), 1600);
    }

    private static void behind() {
        OldBronze x = three();
        x.set(0, 3, 80);
        x.paper(0, 2, 4);
        x.paper(2, 1, 8);
        x.paper(1, 0, 1);
        int[][] zero = {{800, 80}, {1600, 0}, {0, 0}};
        int[][] seven = {{650, 45}, {1750, 35}, {0, 0}};
        for (int thing = 0; thing < 3; thing++) {
            for (int what = 0; what < 2; what++) {
                due.is("by nothing", x.by(0, thing, 2 + what), zero[thing][what]);
                due.is("by all", x.by(7, thing, 2 + what), seven[thing][what]);
            }
        }
        // 400 of thing 0 came to 1600 of thing 1, and 250 of that came back to 400
        due.is("holds of 0 in 1", x.by(7, 1, 6), 200000);
        due.is("holds of 1 in 1", x.by(7, 1, 7), 800000);
        due.is("holds of 0 in 0", x.by(7, 0, 6), (400L * 1000000 + 250L * 200000) / 650);
        due.is("holds of 1 in 0", x.by(7, 0, 7), 250L * 800000 / 650);
        due.is("it keeps its holds", x.by(7, 2, 6), 1000000);
        due.is("lost its own holds", x.by(1, 2, 8), 0);
        due.is("without grams", x.by(2, 1, 2), 1600);
        due.is("only the last", x.by(4, 0, 2), 1000);
        due.is("nothing moved", x.thingIs(2, 2), 0);
        x.melt(0, 8);
        due.is("from all as it is", x.by(1, 2, 2), 0);
        due.is("0 by 0 grams", x.by(1, 2, 8), 0);
    }

    private static void behindErrors() {
        OldBronze x = three();
        due.is("no papers", x.by(1, 0, 2), Due.BEYOND);
        x.paper(0, 1, 8);
        due.is("history -1", x.by(-1, 0, 2), Due.BEYOND);
        due.is("history 2", x.by(2, 0, 2), Due.BEYOND);
        due.is("thing 3", x.by(0, 3, 2), Due.BEYOND);
        due.is("thing -1", x.by(0, -1, 2), Due.BEYOND);
        due.is("what 1", x.by(0, 0, 1), Due.BEYOND);
        due.is("what 10", x.by(0, 0, 10), Due.BEYOND);
        due.is("what 9", x.by(0, 0, 9), 0);
    }

    private static void fitting() {
        OldBronze x = three();
        x.paper(0, 2, 2);
        x.paper(0, 2, 2);
        x.paper(1, 2, 1);
        // thing 2 has 0, 200, 200, 350 by the first two, and 200 more by the last
        x.weigh(2, 400, 50);
        int[] grams = new int[8];
        int all = 7;
        int any = 0;
        int fits = 0;
        int papers = 0;
        int least = -1;
        for (int h = 0; h < 8; h++) {
            grams[h] = x.by(h, 2, 2);
            if (Math.abs(grams[h] - 400) <= 50) {
                least = fits == 0 ? h : least;
                fits++;
                all &= h;
                any |= h;
                papers = Math.max(papers, Integer.bitCount(h));
            }
        }
        due.is("grams by both", grams[3], 350);
        due.is("fits", fits, 3);
        due.is("how many", x.fits(0), fits);
        due.is("the least", x.fits(1), least);
        due.is("surely", x.fits(2), all);
        due.is("maybe", x.fits(3), any);
        due.is("false", x.fits(4), 3 - papers);
        x.weigh(1, 1400, 0);
        due.is("two fit", x.fits(0), 2);
        due.is("surely the last", x.fits(2), 4);
        due.is("the least is", x.fits(1), 5);
        due.is("maybe all", x.fits(3), 7);
        due.is("one is false", x.fits(4), 1);
        x.forget(1);
        x.weigh(2, 449, 99);
        due.is("slip below", x.fits(0), 3);
        x.forget(1);
        x.weigh(2, 450, 99);
        due.is("slip too little", x.fits(0), 2);
        x.forget(1);
        x.weigh(2, 649, 99);
        due.is("slip above", x.fits(0), 1);
        x.forget(1);
        x.weigh(2, 650, 99);
        due.is("slip too little, too", x.fits(0), 0);
        due.is("of none the least", x.fits(1), Due.NONE);
        due.is("of none surely all", x.fits(2), 7);
        due.is("of none maybe none", x.fits(3), 0);
        due.is("of none false", x.fits(4), Due.NONE);
    }

    private static void fittingErrors() {
        OldBronze x = new OldBronze();
        due.is("what 5", x.fits(5), Due.BEYOND);
        due.is("what -1", x.fits(-1), Due.BEYOND);
        due.is("one without papers", x.fits(0), 1);
        due.is("it is empty", x.fits(1), 0);
        due.is("surely none", x.fits(2), 0);
        due.is("maybe none", x.fits(3), 0);
        due.is("false none", x.fits(4), 0);
    }

    private static void spans() {
        OldBronze x = three();
        x.paper(0, 2, 1);
        x.paper(1, 2, 1);
        // thing 2: holds of 0: none 0 (its own stay), 1000000, 0, 333333
        due.is("least of 0", x.span(2, 0, 0), 0);
        due.is("greatest of 0", x.span(2, 0, 1), 1000000);
        x.weigh(0, 700, 0);
        due.is("least of 0, weighed", x.span(2, 0, 0), 333333);
        due.is("greatest of 0, weighed", x.span(2, 0, 1), 1000000);
        due.is("least of 1, weighed", x.span(2, 1, 0), 0);
        due.is("greatest of 1, weighed", x.span(2, 1, 1), 666666);
        due.is("of a first one that isn't", x.span(2, 3, 1), 0);
        due.is("thing 3", x.span(3, 0, 0), Due.BEYOND);
        due.is("thing -1", x.span(-1, 0, 0), Due.BEYOND);
        due.is("first 4", x.span(0, 4, 0), Due.BEYOND);
        due.is("first -1", x.span(0, -1, 0), Due.BEYOND);
        due.is("greatest 2", x.span(0, 0, 2), Due.BEYOND);
        due.is("greatest -1", x.span(0, 0, -1), Due.BEYOND);
        x.weigh(0, 9, 0);
        due.is("none fits", x.span(2, 0, 0), Due.NONE);
        due.is("BEYOND ahead of NONE", x.span(3, 0, 0), Due.BEYOND);
    }

    private static void nextToWeigh() {
        OldBronze x = new OldBronze();
        due.is("no things", x.next(), Due.NONE);
        x.thing(0, 800);
        x.thing(0, 800);
        x.thing(0, 800);
        x.thing(0, 800);
        due.is("of several the least", x.next(), 0);
        x.paper(0, 1, 1);
        x.paper(0, 2, 1);
        x.paper(3, 2, 2);
        // thing 0: 800, 700, 700, 613; thing 2: 800, 900 (or 888), 1000, ..: more of them
        due.is("it parts best", x.next(), 2);
        x.weigh(3, 800, 0);
        due.is("thing 0 parts then", x.next(), 0);
        x.weigh(3, 0, 0);
        due.is("none fits", x.next(), Due.NONE);

        OldBronze y = new OldBronze();
        for (int grams : new int[] {9, 8000, 880000, 80, 0}) {
            y.thing(0, grams);
        }
        for (int i = 0; i < 6; i++) {
            y.paper(1 + i / 2, 4, 1 + i % 2);
        }
        // thing 4 has other GRAMS behind each of them; 1, 2, 3 each four of their own
        due.is("64 fit", y.fits(0), 64);
        due.is("of 64", y.next(), 4);
        y.weigh(2, 660000, 0);
        due.is("of 16, where thing 2 has but one", y.next(), 4);
        y.weigh(1, 8000, 0);
        due.is("of 4, where thing 3 parts as well", y.next(), 3);

        OldBronze z = new OldBronze();
        z.thing(0, 8);
        z.thing(0, 8);
        z.paper(0, 1, 8);
        z.paper(0, 1, 8);
        // thing 0: 8, 0, 0, 0; thing 1: 8, 16, 16, 16
        due.is("both part alike", z.next(), 0);
        z.paper(1, 0, 1);
        // thing 0: 8, 0, 0, 0, 9, 2, 2, 2; thing 1: 8, 16, .., 7, 14, ..
        due.is("both part alike again", z.next(), 0);
    }

    private static void most() {
        OldBronze x = new OldBronze();
        x.thing(0, 800);
        x.thing(0, 800);
        x.melt(0, 4);
        x.melt(1, 2);
        x.cast(0, 0, 0);
        x.thing(0, 0);
        // thing 2: 600 grams, holds 666666 of 0, 333333 of 1
        due.is("of 0 by 0", x.most(0, 0, 0), 0);
        due.is("of 0 by 0, holds", x.most(0, 0, 1), 0);
        due.is("of 0 by 1", x.most(0, 1, 0), 1);
        due.is("of 0 by 3", x.most(0, 3, 0), 1);
        due.is("of 0 by 3, holds", x.most(0, 3, 1), 1000000);
        due.is("of 1", x.most(1, 2, 0), 2);
        due.is("of one without grams", x.most(2, 3, 0), 0);
        due.is("of one without grams, holds", x.most(2, 3, 1), 0);
        x.melt(0, 8);
        due.is("of 0 without 0", x.most(0, 3, 0), 4);
        due.is("of 0 without 0, holds", x.most(0, 3, 1), 666666);

        x.thing(0, 1);
        due.is("of the last by 1", x.most(3, 1, 0), 16);
        due.is("of the last by 1, holds", x.most(3, 1, 1), 1000000);
        due.is("of 1 by 3, holds", x.most(1, 3, 1), 1000000);

        OldBronze y = new OldBronze();
        y.thing(0, 1);
        y.melt(0, 8);
        y.thing(0, 2);
        y.melt(1, 8);
        y.cast(0, 0, 50);
        // thing 2: 2 grams, thing 3: 1 gram, both hold 333333 of 0
        due.is("cut like one of them", y.most(0, 3, 1), 333333);
        due.is("fewest, then the least", y.most(0, 3, 0), 4);
    }

    private static void mostErrors() {
        OldBronze x = three();
        due.is("first 4", x.most(4, 0, 0), Due.BEYOND);
        due.is("first -1", x.most(-1, 0, 0), Due.BEYOND);
        due.is("n 4", x.most(0, 4, 0), Due.BEYOND);
        due.is("n -1", x.most(0, -1, 0), Due.BEYOND);
        due.is("what 2", x.most(0, 0, 2), Due.BEYOND);
        due.is("what -1", x.most(0, 0, -1), Due.BEYOND);
    }
}
