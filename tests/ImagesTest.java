/** Promises 34 to 39: images, numbers that wait, counts, what is told. */
public final class ImagesTest {
    private static final Due due = new Due();

    public static void main(String[] args) {
        imageKeeps();
        imageLeavesOut();
        imageStays();
        telling();
        checking();
        checkingMany();
        counts();
        told();
        due.end();
    }

    private static OldBronze rich() {
        OldBronze x = new OldBronze();
        x.thing(107, 1000);
        x.thing(299, 5000);
        x.set(1, 3, 400);
        x.melt(0, 2);
        x.claim(1, 77);
        x.paper(0, 1, 4);
        x.weigh(1, 4900, 99);
        Due.text(x, "g+m", 0);
        Due.text(x, "c/2", 1);
        x.feed('9', 1);
        x.tell(0);
        x.years(3);
        return x;
    }

    private static int[] state(OldBronze x) {
        int[] state = new int[60];
        int n = 0;
        for (int what = 0; what <= 10; what++) {
            state[n++] = what == 9 ? 0 : x.count(what);
            state[n++] = x.thingIs(0, what);
            state[n++] = x.thingIs(1, what);
        }
        for (int what = 2; what <= 9; what++) {
            state[n++] = x.crucible(what);
        }
        for (int what = 0; what <= 2; what++) {
            state[n++] = x.claimIs(0, what);
        }
        for (int what = 0; what <= 4; what++) {
            state[n++] = x.fits(what);
        }
        state[n++] = x.by(1, 1, 2);
        return state;
    }

    private static void same(String of, int[] got, int[] want) {
        for (int i = 0; i < want.length; i++) {
            due.is(of + " " + i, got[i], want[i]);
        }
    }

    private static void imageKeeps() {
        OldBronze x = rich();
        int[] ahead = state(x);
        due.is("the first image", x.image(), 1);
        same("an image changes nothing", state(x), ahead);
        x.thing(0, 9);
        x.melt(1, 8);
        x.cast(0, 9, 990);
        x.set(0, 0, 3);
        x.set(0, 1, 1);
        x.claim(0, 1);
        x.forget(0);
        x.forget(1);
        x.paper(1, 0, 1);
        x.weigh(0, 1, 1);
        x.untell(0);
        Due.text(x, "1", 1);
        Due.feed(x, "12");
        x.tell(5);
        x.years(60);
        x.seed(4);
        due.is("restored: years", x.restore(), 3);
        same("restored", state(x), ahead);
        due.is("the tape", x.text(0), 1);
        due.is("is the one of the image", x.thingIs(0, 10), 9);
        due.is("what waits is, too", x.check(), 0);
        due.is("a first thing", x.thing(0, 5), 2);
        due.is("holds itself", x.thingIs(2, 8), 1000000);
    }

    private static void imageLeavesOut() {
        OldBronze x = rich();
        x.sheet(0, 8, 2);
        x.put(0, 0, 1);
        x.voice(0, 1, 5);
        x.thing(700, 0);
        x.image();
        x.sheet(0, 16, 3);
        x.sheet(1, 8, 1);
        x.voice(0, 0, 5);
        x.thing(700, 0);
        x.restore();
        due.is("a sheet stays", x.put(0, 2, 1), 1);
        due.is("a sheet stays, too", x.put(1, 0, 1), 1);
        due.is("the trace stays", x.count(9), 2);
        due.is("what is told stays", x.told(1), 2);
        due.is("how often stays", x.image(), 2);
        x.restore();
        due.is("how often stays, too", x.image(), 3);
    }

    private static void imageStays() {
        OldBronze x = new OldBronze();
        due.is("no image", x.restore(), Due.NONE);
        x.image();
        x.thing(0, 5);
        due.is("restored", x.restore(), 0);
        due.is("no things", x.count(0), 0);
        x.thing(1, 6);
        x.thing(1, 6);
        due.is("restored again", x.restore(), 0);
        due.is("no things again", x.count(0), 0);
        x.thing(2, 7);
        due.is("one more in place of it", x.image(), 2);
        x.set(0, 1, 50);
        x.restore();
        due.is("as it was", x.thingIs(0, 1), 2);
        due.is("it holds itself", x.thingIs(0, 6), 1000000);
    }

    private static void telling() {
        OldBronze x = new OldBronze();
        for (int i = 1; i <= 24; i++) {
            due.is("tell", x.tell(-i), i);
        }
        due.is("a 25th", x.tell(0), Due.FULL);
        due.is("24", x.count(8), 24);
        due.is("wrong at once", x.check(), 1);
        due.is("none wait", x.count(8), 0);
        due.is("tell again", x.tell(Integer.MIN_VALUE), 1);
    }

    private static OldBronze four() {
        OldBronze x = new OldBronze();
        x.thing(0, 800);
        x.thing(0, 800);
        x.paper(0, 1, 1);
        x.paper(0, 1, 1);
        x.paper(0, 1, 8);
        // 4, 5, 6, 7 leave nothing of thing 0
        x.weigh(0, 0, 0);
        return x;
    }

    private static void check(int want, int... told) {
        OldBronze x = four();
        for (int v : told) {
            x.tell(v);
        }
        due.is("check of " + told.length, x.check(), want);
        due.is("none wait", x.count(8), 0);
    }

    private static void checking() {
        check(0, 4, 5, 6, 7);
        check(1);
        check(4, 4, 5, 6);
        check(5, 4, 5, 6, 7, 8);
        check(5, 4, 5, 6, 7, 7);
        check(2, 4, 6, 5, 7);
        check(1, 5, 6, 7);
        check(1, 0, 4, 5, 6, 7);
        check(3, 4, 5, -6, 7);
        OldBronze x = new OldBronze();
        due.is("one fits: the empty one", x.check(), 1);
        x.tell(0);
        due.is("it is told", x.check(), 0);
        x.thing(0, 1);
        x.weigh(0, 100, 0);
        due.is("none fits, none told", x.check(), 0);
        x.tell(0);
        due.is("none fits, one told", x.check(), 1);
    }

    private static void checkingMany() {
        OldBronze x = new OldBronze();
        x.thing(0, 1);
        x.thing(0, 1);
        for (int i = 0; i < 6; i++) {
            x.paper(0, 1, 1);
        }
        for (int i = 0; i < 24; i++) {
            x.tell(i);
        }
        due.is("64 fit", x.check(), 25);
    }

    private static void counts() {
        OldBronze x = rich();
        x.voice(0, 2, 1);
        int[] want = {2, 2, 1, 1, 1, 0, 3, 1, 1, 4, 0};
        want[5] = x.thingIs(0, 2) + x.thingIs(1, 2);
        want[10] = x.seed(Due.BEYOND);
        x.seed(want[10]);
        for (int what = 0; what <= 10; what++) {
            due.is("count(" + what + ")", x.count(what), want[what]);
        }
        due.is("count(-1)", x.count(-1), Due.BEYOND);
        due.is("count(11)", x.count(11), Due.BEYOND);
    }

    private static void told() {
        OldBronze x = new OldBronze();
        due.is("told 0", x.told(0), Due.BEYOND);
        due.is("told 7", x.told(7), Due.BEYOND);
        due.is("told -1", x.told(-1), Due.BEYOND);
        due.is("they are counted", x.told(1), 3);
        x.body(0);
        x.restore();
        x.sheet(0, 8, -1);
        for (int i = 0; i < 13; i++) {
            x.thing(0, 0);
        }
        x.as(0, 4);
        x.as(0, 5);
        x.as(0, 6);
        x.voice(0, 3, 0);
        x.text(0);
        int[] want = {3, 2, 1, 1, 3, 1};
        for (int k = 1; k <= 6; k++) {
            due.is("told " + k, x.told(k), want[k - 1]);
        }
    }
}
