/** Promises 34 to 39 and ERRORS: the sentences that name a bound, each with a test of its own. */
public final class EdgesImagesTest {
    private static final int LEAST = Integer.MIN_VALUE;
    private static final int GREATEST = Integer.MAX_VALUE;

    private static final Due due = new Due();

    public static void main(String[] args) {
        errorsAreNumbers();
        noImageAtFirst();
        imagesAreCounted();
        anImageOfNothing();
        anImageInPlaceOfOneAhead();
        theImageStays();
        theImageOfAllThatIsFull();
        sheetsAreNotInIt();
        theTraceIsNotInIt();
        whatIsToldIsNotInIt();
        restoredYears();
        twentyFourWait();
        anyNumberWaits();
        noneWaitBehindACheck();
        checkOfNone();
        checkOfOneThatLacks();
        checkOfOneTooMany();
        checkOfTheLeastFirst();
        checkOfMoreThanCanWait();
        checkTellsNoErrors();
        countsOfWhat();
        countsThatAreFull();
        countedGramsOfAll();
        toldOfWhich();
        toldOfEach();
        due.end();
    }

    // "LOW is -1000000000; LOW - 1 BEYOND, LOW - 2 NONE, LOW - 3 STATE, LOW - 4 FULL, LOW - 5
    // KIND, LOW - 6 PARTED."
    private static void errorsAreNumbers() {
        OldBronze x = new OldBronze();
        due.is("BEYOND", x.thing(-1, 0), -1000000001);
        due.is("NONE", x.restore(), -1000000002);
        due.is("STATE", x.cast(0, 0, 0), -1000000003);
        for (int i = 0; i < 12; i++) {
            x.thing(0, 0);
        }
        due.is("FULL", x.thing(0, 0), -1000000004);
        due.is("KIND", x.as(0, 1), -1000000005);
        due.is("PARTED", x.voice(0, 3, 0), -1000000006);
        for (int k = 1; k <= 6; k++) {
            due.is("told(" + k + ")", x.told(k), 1);
        }
    }

    // restore: "NONE: there is none."
    private static void noImageAtFirst() {
        OldBronze x = new OldBronze();
        x.thing(0, 5);
        due.is("none", x.restore(), Due.NONE);
        due.is("all stays", x.count(5), 5);
        x.image();
        due.is("one", x.restore(), 0);
        due.is("told once", x.told(2), 1);
    }

    // image: "how often that was done".
    private static void imagesAreCounted() {
        OldBronze x = new OldBronze();
        for (int i = 1; i <= 40; i++) {
            due.is("image", x.image(), i);
        }
        x.restore();
        due.is("restoring doesn't count", x.image(), 41);
        x.restore();
        x.restore();
        due.is("nor does it twice", x.image(), 42);
    }

    // "All .. is kept": also where there is nothing.
    private static void anImageOfNothing() {
        OldBronze x = new OldBronze();
        x.image();
        x.thing(150, 900);
        x.thing(0, 900);
        x.melt(1, 8);
        x.claim(0, 5);
        x.paper(0, 1, 4);
        x.weigh(0, 5, 5);
        Due.text(x, "1", 0);
        Due.text(x, "1", 1);
        x.feed('1', 1);
        x.tell(4);
        x.years(60);
        x.seed(99);
        due.is("restored", x.restore(), 0);
        for (int what = 0; what <= 9; what++) {
            due.is("count " + what, x.count(what), 0);
        }
        due.is("z", x.count(10), 1);
        for (int what = 2; what <= 9; what++) {
            due.is("crucible " + what, x.crucible(what), 0);
        }
        due.is("no texts", x.untell(0) + x.untell(1), 0);
        due.is("a first thing again", x.thing(150, 900), 0);
        due.is("it holds itself", x.thingIs(0, 6), 1000000);
        due.is("it has no traces", x.thingIs(0, 3), 0);
    }

    // "in place of one ahead".
    private static void anImageInPlaceOfOneAhead() {
        OldBronze x = new OldBronze();
        x.thing(0, 5);
        x.image();
        x.thing(0, 6);
        x.image();
        x.thing(0, 7);
        x.restore();
        due.is("the later one", x.count(0), 2);
        due.is("its grams", x.count(5), 11);
    }

    // "which stays".
    private static void theImageStays() {
        OldBronze x = new OldBronze();
        x.thing(0, 5);
        x.image();
        for (int i = 0; i < 3; i++) {
            x.thing(0, 6);
            x.melt(0, 8);
            x.tell(i);
            x.restore();
            due.is("things", x.count(0), 1);
            due.is("grams", x.count(5), 5);
            due.is("crucible", x.crucible(2), 0);
            due.is("numbers that wait", x.count(8), 0);
        }
    }

    // The same, with all that there is room for.
    private static void theImageOfAllThatIsFull() {
        OldBronze x = new OldBronze();
        for (int i = 0; i < 12; i++) {
            x.thing(10 * i, 64 * i);
        }
        for (int i = 0; i < 10; i++) {
            x.claim(11 - i, i + 1);
        }
        for (int i = 0; i < 6; i++) {
            x.paper(11, i, i + 1);
        }
        for (int i = 0; i < 8; i++) {
            x.weigh(6, 384, i);
        }
        for (int i = 0; i < 24; i++) {
            x.tell(i);
        }
        Due.feed(x, "1+1+1+1+1+1+1+1+1+1+1+1+1+1+1+1+1+1+1+1+1+1+1+1+1+1+1+1+1+12");
        x.image();
        x.forget(0);
        x.forget(1);
        x.check();
        x.text(0);
        x.untell(0);
        x.years(60);
        x.restore();
        int[] want = {12, 4, 10, 6, 8, 64 * 66, 0, 60, 24, 0, 1};
        for (int what = 0; what <= 10; what++) {
            due.is("count " + what, x.count(what), want[what]);
        }
        due.is("the last claim", x.claimIs(9, 0) * 100 + x.claimIs(9, 1), 210);
        due.is("the last paper", x.by(32, 5, 2), 320 + 704 * 6 / 8);
        due.is("all numbers that wait", x.check(), 25);
        due.is("the tape", x.text(0), 1);
        due.is("what it gives", x.thingIs(11, 10), 29 + 12);
    }

    // "All (but SHEETS ..)".
    private static void sheetsAreNotInIt() {
        OldBronze x = new OldBronze();
        x.thing(0, 7);
        x.sheet(0, 8, 1);
        x.put(0, 0, 7);
        x.image();
        x.put(0, 0, 8);
        x.sheet(1, 16, 2);
        x.restore();
        due.is("a number stays put", x.judge(0, 0), 0);
        due.is("a sheet stays", x.put(1, 1, 7), 1);
        x.sheet(0, 0, 0);
        x.restore();
        due.is("a missing one stays missing", x.judge(0, 0), Due.NONE);
    }

    // "(but .. THE TRACE ..)".
    private static void theTraceIsNotInIt() {
        OldBronze x = new OldBronze();
        x.image();
        x.thing(150, 7);
        x.voice(0, 0, 1);
        x.restore();
        due.is("two bodies", x.count(9), 2);
        due.is("the first", x.body(0), 20);
        due.is("the second", x.body(1), 10);
    }

    // "(but .. what told() tells ..)".
    private static void whatIsToldIsNotInIt() {
        OldBronze x = new OldBronze();
        x.told(0);
        x.image();
        x.told(0);
        x.restore();
        due.is("two", x.told(1), 2);
    }

    // restore: "YEARS so far".
    private static void restoredYears() {
        OldBronze x = new OldBronze();
        x.years(60);
        x.image();
        x.years(40);
        due.is("60", x.restore(), 60);
        due.is("60, too", x.count(6), 60);
        for (int i = 0; i < 165; i++) {
            x.years(60);
        }
        due.is("9960", x.count(6), 9960);
        due.is("above 9999", x.years(40), Due.STATE);
        due.is("60 again", x.restore(), 60);
        due.is("not above", x.years(40), 0);
        due.is("100", x.count(6), 100);
    }

    // tell: "FULL: 24 wait."
    private static void twentyFourWait() {
        OldBronze x = new OldBronze();
        for (int i = 1; i <= 24; i++) {
            due.is("so many", x.tell(7), i);
        }
        due.is("25", x.tell(7), Due.FULL);
        due.is("24 wait", x.count(8), 24);
        x.check();
        due.is("1 again", x.tell(7), 1);
        due.is("told once", x.told(4), 1);
    }

    // "One more number waits": any.
    private static void anyNumberWaits() {
        OldBronze x = new OldBronze();
        int n = 0;
        for (int v : new int[] {0, -1, LEAST, GREATEST, Due.BEYOND, 64}) {
            n++;
            due.is("number " + v, x.tell(v), n);
        }
        due.is("the second isn't so", x.check(), 2);
    }

    // check: "The numbers that wait (none do then)": also where they aren't so.
    private static void noneWaitBehindACheck() {
        OldBronze x = new OldBronze();
        x.tell(9);
        x.tell(9);
        due.is("wrong", x.check(), 1);
        due.is("none wait", x.count(8), 0);
        x.tell(0);
        due.is("right", x.check(), 0);
        due.is("none wait, too", x.count(8), 0);
    }

    private static OldBronze weighed(int grams) {
        OldBronze x = new OldBronze();
        x.thing(0, 800);
        x.thing(0, 800);
        x.paper(0, 1, 8);
        x.paper(0, 1, 8);
        x.weigh(0, grams, 0);
        return x;
    }

    private static void check(String of, int want, int grams, int... told) {
        OldBronze x = weighed(grams);
        for (int v : told) {
            x.tell(v);
        }
        due.is(of, x.check(), want);
        due.is(of + ": none wait", x.count(8), 0);
    }

    // check of no FITS, and of the empty set alone.
    private static void checkOfNone() {
        check("none fits", 0, 5);
        check("none fits, one told", 1, 5, 0);
        check("none fits, -1 told", 1, 5, -1);
        check("the empty one fits", 0, 800, 0);
        check("the empty one fits, none told", 1, 800);
        OldBronze x = new OldBronze();
        due.is("nothing told of one FIT", x.check(), 1);
    }

    // "(one that lacks .. too)".
    private static void checkOfOneThatLacks() {
        check("all", 0, 0, 1, 2, 3);
        check("the last lacks", 3, 0, 1, 2);
        check("two lack", 2, 0, 1);
        check("the first lacks", 1, 0, 2, 3);
        check("all lack", 1, 0);
    }

    // "(.. or is too many, too)".
    private static void checkOfOneTooMany() {
        check("one too many", 4, 0, 1, 2, 3, 4);
        check("two too many", 4, 0, 1, 2, 3, 4, 5);
        check("one twice at the end", 4, 0, 1, 2, 3, 3);
        check("one twice at once", 2, 0, 1, 1, 2, 3);
        check("one ahead", 1, 0, 0, 1, 2, 3);
        check("one too many of one", 2, 800, 0, 0);
    }

    // "the least first".
    private static void checkOfTheLeastFirst() {
        check("turned", 1, 0, 3, 2, 1);
        check("the last two turned", 2, 0, 1, 3, 2);
    }

    // More FITS than numbers that can wait: then one lacks.
    private static void checkOfMoreThanCanWait() {
        OldBronze x = new OldBronze();
        x.thing(0, 8);
        x.thing(0, 8);
        for (int papers = 1; papers <= 6; papers++) {
            x.paper(0, 1, 8);
            int fits = 1 << papers;
            for (int i = 0; i < fits && i < 24; i++) {
                x.tell(i);
            }
            due.is("of " + fits, x.check(), fits <= 24 ? 0 : 25);
        }
    }

    // check answers no ERROR, whatever waits.
    private static void checkTellsNoErrors() {
        OldBronze x = weighed(5);
        x.check();
        x.tell(LEAST);
        x.check();
        for (int k = 1; k <= 6; k++) {
            due.is("told(" + k + ")", x.told(k), 0);
        }
    }

    // count: 0 .. 10. "BEYOND."
    private static void countsOfWhat() {
        OldBronze x = new OldBronze();
        for (int what : new int[] {LEAST, -1, 11, GREATEST}) {
            due.is("count(" + what + ")", x.count(what), Due.BEYOND);
        }
        for (int what = 0; what <= 10; what++) {
            due.is("count(" + what + ")", x.count(what), what == 10 ? 1 : 0);
        }
        due.is("told four", x.told(1), 4);
        x.seed(Due.NONE);
        due.is("z (any number)", x.count(10), Due.NONE);
        due.is("no ERROR", x.told(2), 0);
    }

    // "0 THINGS, 1 FIRST THINGS that count, 2 CLAIMS, 3 LOST PAPERS, 4 WEIGHINGS": the most.
    private static void countsThatAreFull() {
        OldBronze x = new OldBronze();
        for (int i = 0; i < 20; i++) {
            x.thing(0, 8);
            x.claim(0, 1);
            x.paper(0, 1, 1);
            x.weigh(0, 8, 0);
        }
        int[] want = {12, 4, 10, 6, 8};
        for (int what = 0; what <= 4; what++) {
            due.is("count(" + what + ")", x.count(what), want[what]);
        }
        // 8 things, 10 claims, 13 papers, 12 weighings; the first paper has one thing alone
        due.is("told FULL", x.told(4), 8 + 10 + 13 + 12);
        due.is("told BEYOND", x.told(1), 1);
    }

    // "5 GRAMS of all THINGS": not of THE CRUCIBLE.
    private static void countedGramsOfAll() {
        OldBronze x = new OldBronze();
        for (int i = 0; i < 12; i++) {
            x.thing(0, 9999999);
        }
        due.is("the most", x.count(5), 119999988);
        due.is("the most by years", x.years(1), 119999988);
        x.melt(11, 8);
        due.is("without the last", x.count(5), 109999989);
    }

    // told: "(k 1 .. 6); BEYOND: another k (counted, too)."
    private static void toldOfWhich() {
        OldBronze x = new OldBronze();
        int n = 0;
        for (int k : new int[] {0, 7, -1, LEAST, GREATEST, 1000000001}) {
            n++;
            due.is("told(" + k + ")", x.told(k), Due.BEYOND);
            due.is("it is counted", x.told(1), n);
        }
        for (int k = 2; k <= 6; k++) {
            due.is("none of " + k, x.told(k), 0);
        }
    }

    // "How many acts have answered an ERROR LOW - k": each time, each of its own.
    private static void toldOfEach() {
        OldBronze x = new OldBronze();
        for (int i = 1; i <= 3; i++) {
            x.put(0, 0, 0);
            due.is("NONE", x.told(2), i);
            x.sheet(0, 8, -1);
            due.is("STATE", x.told(3), i);
            x.feed(0, 9);
            due.is("BEYOND", x.told(1), i);
        }
        due.is("telling tells nothing", x.told(1) + x.told(2) + x.told(3), 9);
        due.is("none of the others", x.told(4) + x.told(5) + x.told(6), 0);
    }
}
