/** Promises 1 to 11: a new object, things, moves, casts, years, draws. */
public final class ThingsTest {
    private static final Due due = new Due();

    public static void main(String[] args) {
        newObject();
        things();
        firstThings();
        tones();
        kinds();
        setting();
        melting();
        meltingTraces();
        heldGrams();
        casting();
        castingErrors();
        heldCast();
        years();
        yearsErrors();
        ahead();
        seeds();
        due.end();
    }

    private static void newObject() {
        OldBronze x = new OldBronze();
        for (int what = 0; what <= 9; what++) {
            due.is("count(" + what + ") of a new one", x.count(what), 0);
        }
        due.is("z of a new one", x.count(10), 1);
        for (int what = 2; what <= 9; what++) {
            due.is("crucible(" + what + ") of a new one", x.crucible(what), 0);
        }
        for (int k = 1; k <= 6; k++) {
            due.is("told(" + k + ") of a new one", x.told(k), 0);
        }
        due.is("no thing 0", x.thingIs(0, 0), Due.BEYOND);
        due.is("no sheet 0", x.put(0, 0, 0), Due.NONE);
        due.is("no image", x.restore(), Due.NONE);
        due.is("no body", x.body(0), Due.NONE);
        due.is("no text", x.untell(0), 0);
    }

    private static void things() {
        OldBronze x = new OldBronze();
        due.is("km -1", x.thing(-1, 0), Due.BEYOND);
        due.is("km 700", x.thing(700, 0), Due.BEYOND);
        due.is("grams -1", x.thing(0, -1), Due.BEYOND);
        due.is("grams 10000000", x.thing(0, 10000000), Due.BEYOND);
        due.is("km 699", x.thing(699, 9999999), 0);
        due.is("its kind", x.thingIs(0, 0), 6);
        due.is("its m", x.thingIs(0, 1), 99);
        due.is("its grams", x.thingIs(0, 2), 9999999);
        for (int what = 3; what <= 5; what++) {
            due.is("its trace " + what, x.thingIs(0, what), 0);
        }
        for (int i = 1; i < 12; i++) {
            due.is("thing " + i, x.thing(100 * (i % 7) + i, i), i);
        }
        due.is("BEYOND ahead of FULL", x.thing(700, 1), Due.BEYOND);
        due.is("a 13th thing", x.thing(0, 1), Due.FULL);
        due.is("still 12", x.count(0), 12);
        due.is("thing -1", x.thingIs(-1, 0), Due.BEYOND);
        due.is("thing 12", x.thingIs(12, 2), Due.BEYOND);
        due.is("what -1", x.thingIs(0, -1), Due.BEYOND);
        due.is("what 11", x.thingIs(0, 11), Due.BEYOND);
        due.is("grams of all", x.count(5), 9999999 + 66);
    }

    private static void firstThings() {
        OldBronze x = new OldBronze();
        x.thing(0, 80);
        x.melt(0, 4);
        due.is("a cast one", x.cast(0, 0, 0), 1);
        for (int i = 2; i < 6; i++) {
            due.is("a first one", x.thing(0, i == 3 ? 0 : 9), i);
        }
        due.is("those that count", x.count(1), 4);
        int[][] holds = {
            {1000000, 0, 0, 0}, {1000000, 0, 0, 0}, {0, 1000000, 0, 0},
            {0, 0, 1000000, 0}, {0, 0, 0, 1000000}, {0, 0, 0, 0},
        };
        for (int thing = 0; thing < 6; thing++) {
            for (int first = 0; first < 4; first++) {
                due.is("what " + thing + " holds of " + first,
                        x.thingIs(thing, 6 + first), holds[thing][first]);
            }
        }
    }

    private static void tones() {
        OldBronze x = new OldBronze();
        int[] tones = {
            1000 - 123, 1000 - 123 + 10, 877 / 2 + 10, 877 - 20, 887 + 20, 438 + 10 + 2, -857,
        };
        for (int kind = 0; kind < 7; kind++) {
            x.thing(100 * kind + 10, 2999);
            x.set(kind, 3, 371);
            due.is("tone of kind " + kind, x.thingIs(kind, 10), tones[kind]);
        }
        x.thing(100, 0);
        due.is("tone of 0 grams", x.thingIs(7, 10), 1000);
        x.thing(399, 1);
        x.set(8, 3, 1);
        due.is("tone below 0", x.thingIs(8, 10), -198);
        x.thing(0, 9999999);
        x.set(9, 3, 9999999);
        due.is("all tin", x.thingIs(9, 10), 0);
        x.set(9, 3, 9989999);
        due.is("nearly all tin", x.thingIs(9, 10), 2);
        x.thing(500, 3000);
        due.is("howitzer of 3000 grams", x.thingIs(10, 10), 503);
    }

    private static void kinds() {
        OldBronze x = new OldBronze();
        boolean[][] is = {
            {true, false, false, false, false, false, false},
            {true, true, false, false, false, false, false},
            {true, false, true, false, false, false, false},
            {true, false, false, true, false, false, false},
            {true, true, false, false, true, false, false},
            {true, false, true, false, false, true, false},
            {true, false, false, true, false, false, true},
        };
        for (int kind = 0; kind < 7; kind++) {
            x.thing(100 * kind, 40 + kind);
            for (int as = 0; as < 7; as++) {
                due.is("kind " + kind + " as " + as, x.as(kind, as),
                        is[kind][as] ? 40 + kind : Due.KIND);
            }
        }
        due.is("as of no thing", x.as(7, 0), Due.BEYOND);
        due.is("as of thing -1", x.as(-1, 0), Due.BEYOND);
        due.is("as kind 7", x.as(0, 7), Due.BEYOND);
        due.is("as kind -1", x.as(0, -1), Due.BEYOND);
    }

    private static void setting() {
        OldBronze x = new OldBronze();
        x.thing(342, 50);
        due.is("kind was", x.set(0, 0, 5), 3);
        due.is("kind is", x.thingIs(0, 0), 5);
        due.is("m was", x.set(0, 1, 99), 42);
        due.is("m is", x.thingIs(0, 1), 99);
        for (int what = 3; what <= 5; what++) {
            due.is("trace was", x.set(0, what, 50), 0);
            due.is("trace is", x.set(0, what, what), 50);
            due.is("trace is now", x.thingIs(0, what), what);
            due.is("trace to 0", x.set(0, what, 0), what);
            due.is("trace from 0", x.set(0, what, what), 0);
            due.is("trace above grams", x.set(0, what, 51), Due.BEYOND);
            due.is("trace below 0", x.set(0, what, -1), Due.BEYOND);
        }
        due.is("kind to 0", x.set(0, 0, 0), 5);
        due.is("m to 0", x.set(0, 1, 0), 99);
        x.set(0, 1, 99);
        due.is("kind 7", x.set(0, 0, 7), Due.BEYOND);
        due.is("kind -1", x.set(0, 0, -1), Due.BEYOND);
        due.is("m 100", x.set(0, 1, 100), Due.BEYOND);
        due.is("m -1", x.set(0, 1, -1), Due.BEYOND);
        for (int what : new int[] {-1, 2, 6, 9, 10, 12}) {
            due.is("what " + what, x.set(0, what, 0), Due.BEYOND);
        }
        due.is("no thing", x.set(1, 0, 0), Due.BEYOND);
        due.is("thing -1", x.set(-1, 1, 0), Due.BEYOND);
        due.is("m stays", x.thingIs(0, 1), 99);
    }

    private static void melting() {
        OldBronze x = new OldBronze();
        x.thing(0, 1001);
        x.thing(0, 7);
        x.thing(0, 0);
        due.is("3 eighths of 1001", x.melt(0, 3), 375);
        due.is("what is left", x.thingIs(0, 2), 626);
        due.is("its holds stay", x.thingIs(0, 6), 1000000);
        due.is("1 eighth of 7 is nothing", x.melt(1, 1), 375);
        due.is("nothing lost", x.thingIs(1, 2), 7);
        due.is("holds stay, too", x.crucible(6), 1000000);
        due.is("all of 7", x.melt(1, 8), 382);
        due.is("holds of 0", x.crucible(6), 981675);
        due.is("holds of 1", x.crucible(7), 18324);
        due.is("the empty one keeps its holds", x.thingIs(1, 7), 1000000);
        due.is("without grams", x.melt(1, 1), Due.STATE);
        due.is("without grams from the first", x.melt(2, 8), Due.STATE);
        due.is("0 eighths", x.melt(1, 0), Due.BEYOND);
        due.is("9 eighths", x.melt(0, 9), Due.BEYOND);
        due.is("no thing", x.melt(3, 8), Due.BEYOND);
        due.is("thing -1", x.melt(-1, 8), Due.BEYOND);
        due.is("crucible stays", x.crucible(2), 382);
        due.is("crucible 1", x.crucible(1), Due.BEYOND);
        due.is("crucible 10", x.crucible(10), Due.BEYOND);
        due.is("crucible -1", x.crucible(-1), Due.BEYOND);

        OldBronze y = new OldBronze();
        y.thing(0, 7);
        due.is("nothing into nothing", y.melt(0, 1), 0);
        due.is("holds 0 by 0 grams", y.crucible(6), 0);
    }

    private static void meltingTraces() {
        OldBronze x = new OldBronze();
        x.thing(0, 100);
        x.set(0, 3, 17);
        x.set(0, 4, 7);
        x.set(0, 5, 100);
        x.melt(0, 5);
        int[] moved = {62, 10, 4, 62};
        int[] stayed = {38, 7, 3, 38};
        for (int i = 0; i < 4; i++) {
            due.is("moved " + (2 + i), x.crucible(2 + i), moved[i]);
            due.is("stayed " + (2 + i), x.thingIs(0, 2 + i), stayed[i]);
        }
    }

    private static void heldGrams() {
        OldBronze x = new OldBronze();
        x.thing(0, 9999999);
        x.thing(0, 6000000);
        x.set(0, 4, 9999999);
        x.set(1, 4, 5);
        x.melt(1, 8);
        due.is("held", x.melt(0, 8), 9999999);
        due.is("lead held", x.crucible(4), 9999999);
        due.is("holds by grams of both", x.crucible(6), 624999);
        due.is("holds by grams of both, too", x.crucible(7), 375000);
    }

    private static void casting() {
        OldBronze x = new OldBronze();
        x.thing(0, 1000);
        x.set(0, 3, 100);
        x.set(0, 4, 55);
        x.set(0, 5, 1000);
        x.melt(0, 8);
        due.is("cast", x.cast(499, 37, 970), 1);
        // 1037 grams burn 93 to 944; 7 tenths are 660
        int[] cast = {4, 99, 284, 38, 16, 273, 964320, 0, 0, 0};
        int[] scrap = {6, 0, 660, 87, 35, 637, 964320, 0, 0, 0};
        for (int what = 0; what < 10; what++) {
            due.is("cast " + what, x.thingIs(1, what), cast[what]);
            due.is("scrap " + what, x.thingIs(2, what), scrap[what]);
        }
        for (int what = 2; what <= 9; what++) {
            due.is("crucible empty " + what, x.crucible(what), 0);
        }
        due.is("three things", x.count(0), 3);
        due.is("one first thing", x.count(1), 1);
        x.melt(1, 1);
        due.is("without a scrap", x.cast(0, 0, 900), 3);
        due.is("four things", x.count(0), 4);
        due.is("grams of it", x.thingIs(3, 2), 32);
        x.melt(3, 1);
        due.is("a scrap of nothing", x.cast(0, 0, 10), 4);
        due.is("it has all", x.thingIs(4, 2), 4);
        due.is("there is a scrap", x.thingIs(5, 0), 6);
        due.is("it has nothing", x.thingIs(5, 2), 0);
        due.is("and holds the same", x.thingIs(5, 6), x.thingIs(4, 6));
    }

    private static void castingErrors() {
        OldBronze x = new OldBronze();
        due.is("BEYOND ahead of STATE", x.cast(700, 0, 0), Due.BEYOND);
        due.is("STATE", x.cast(0, 0, 0), Due.STATE);
        x.thing(0, 800);
        x.melt(0, 8);
        due.is("km -1", x.cast(-1, 0, 0), Due.BEYOND);
        due.is("tin -1", x.cast(0, -1, 0), Due.BEYOND);
        due.is("tin 10000", x.cast(0, 10000, 0), Due.BEYOND);
        due.is("law -10", x.cast(0, 0, -10), Due.BEYOND);
        due.is("law 1", x.cast(0, 0, 1), Due.BEYOND);
        due.is("law 999", x.cast(0, 0, 999), Due.BEYOND);
        due.is("law 1000", x.cast(0, 0, 1000), Due.BEYOND);
        for (int i = 1; i < 11; i++) {
            x.thing(0, 1);
        }
        due.is("no room for the scrap", x.cast(0, 0, 10), Due.FULL);
        due.is("nothing came", x.count(0), 11);
        due.is("crucible stays", x.crucible(2), 800);
        due.is("room for one", x.cast(0, 9999, 0), 11);
        due.is("its grams", x.thingIs(11, 2), 10799);
        x.melt(11, 1);
        due.is("no room", x.cast(0, 0, 0), Due.FULL);
        due.is("BEYOND ahead of FULL", x.cast(0, 0, 5), Due.BEYOND);
        x.thing(0, 1);
        due.is("told STATE", x.told(3), 1);
        due.is("told FULL", x.told(4), 3);

        OldBronze y = new OldBronze();
        for (int i = 0; i < 10; i++) {
            y.thing(0, 8);
        }
        y.melt(0, 8);
        due.is("room for both", y.cast(0, 2, 50), 10);
        due.is("twelve", y.count(0), 12);
        due.is("the scrap", y.thingIs(11, 2), 5);
    }

    private static void heldCast() {
        OldBronze x = new OldBronze();
        x.thing(0, 9999999);
        x.set(0, 3, 9999999);
        x.melt(0, 8);
        x.cast(0, 9999, 0);
        due.is("held", x.thingIs(1, 2), 9999999);
        due.is("tin held", x.thingIs(1, 3), 9999999);
        due.is("by the grams then", x.thingIs(1, 6), 1000000);
    }

    private static int draw(int z) {
        return z * 1103515245 + 12345;
    }

    private static void years() {
        OldBronze x = new OldBronze();
        int[] grams = {5000, 0, 9999999, 99};
        int[] tin = {777, 0, 123456, 99};
        int[] m = {50, 99, 99, 99};
        for (int i = 0; i < 4; i++) {
            x.thing(m[i], grams[i]);
            x.set(i, 3, tin[i]);
        }
        int z = 1;
        int all = 0;
        for (int year = 0; year < 7; year++) {
            all = 0;
            for (int i = 0; i < 4; i++) {
                z = draw(z);
                if ((z >>> 8) % 100 < m[i]) {
                    grams[i] -= grams[i] / 100;
                    tin[i] -= tin[i] / 100;
                }
                all += grams[i];
            }
        }
        due.is("7 years", x.years(7), all);
        for (int i = 0; i < 4; i++) {
            due.is("grams of " + i, x.thingIs(i, 2), grams[i]);
            due.is("tin of " + i, x.thingIs(i, 3), tin[i]);
            due.is("holds stay", x.thingIs(i, 6 + i), 1000000);
        }
        due.is("z", x.count(10), z);
        due.is("years so far", x.count(6), 7);
        due.is("grams of all", x.count(5), all);

        OldBronze w = new OldBronze();
        int rest = (draw(1) >>> 8) % 100;
        w.thing(rest, 100);
        due.is("a rest of m", w.then(1, 0, 2), 100);
        w.set(0, 1, rest + 1);
        due.is("a rest below m", w.then(1, 0, 2), 99);

        OldBronze y = new OldBronze();
        due.is("years without things", y.years(60), 0);
        due.is("no draw", y.count(10), 1);
    }

    private static void yearsErrors() {
        OldBronze x = new OldBronze();
        due.is("0 years", x.years(0), Due.BEYOND);
        due.is("-1 years", x.years(-1), Due.BEYOND);
        due.is("61 years", x.years(61), Due.BEYOND);
        for (int i = 0; i < 166; i++) {
            x.years(60);
        }
        due.is("9960 years", x.count(6), 9960);
        due.is("above 9999", x.years(40), Due.STATE);
        due.is("BEYOND ahead of STATE", x.years(61), Due.BEYOND);
        due.is("to 9999", x.years(39), 0);
        due.is("9999 years", x.count(6), 9999);
        due.is("one more", x.years(1), Due.STATE);
        x.thing(99, 1000);
        x.then(60, 0, 2);
        due.is("ahead of it there is no STATE", x.then(60, 0, 0), 0);
        due.is("still 9999", x.count(6), 9999);
    }

    private static void ahead() {
        OldBronze x = new OldBronze();
        x.thing(199, 70000);
        x.thing(250, 60000);
        x.set(0, 3, 7000);
        int[] then = new int[11];
        int now = x.thingIs(0, 2);
        for (int what = 0; what <= 10; what++) {
            due.is("0 years ahead " + what, x.then(0, 0, what), x.thingIs(0, what));
            then[what] = x.then(13, 1, what);
        }
        due.is("nothing went by", x.thingIs(0, 2), now);
        due.is("no draws", x.count(10), 1);
        due.is("no years", x.count(6), 0);
        int tone = x.then(13, 0, 10);
        x.years(13);
        for (int what = 0; what <= 10; what++) {
            due.is("13 years on " + what, x.thingIs(1, what), then[what]);
        }
        due.is("tone 13 years on", x.thingIs(0, 10), tone);
        due.is("-1 years", x.then(-1, 0, 0), Due.BEYOND);
        due.is("61 years", x.then(61, 0, 0), Due.BEYOND);
        due.is("no thing", x.then(0, 2, 0), Due.BEYOND);
        due.is("thing -1", x.then(0, -1, 0), Due.BEYOND);
        due.is("what -1", x.then(0, 0, -1), Due.BEYOND);
        due.is("what 11", x.then(0, 0, 11), Due.BEYOND);
    }

    private static void seeds() {
        OldBronze x = new OldBronze();
        x.thing(0, 5);
        due.is("1 at first", x.seed(Integer.MIN_VALUE), 1);
        due.is("then that", x.seed(Due.BEYOND), Integer.MIN_VALUE);
        due.is("also like an ERROR", x.count(10), Due.BEYOND);
        due.is("also like an ERROR, told", x.seed(-7), Due.BEYOND);
        due.is("which is none", x.told(1), 0);
        x.years(1);
        due.is("drawn from it", x.count(10), draw(-7));
    }
}
