/** Promises 15 to 18: claims and how they share. */
public final class ClaimsTest {
    private static final Due due = new Due();

    public static void main(String[] args) {
        claiming();
        claimsAre();
        shares();
        sharesWithText();
        withoutGrams();
        leftOver();
        greatNumbers();
        due.end();
    }

    private static void claiming() {
        OldBronze x = new OldBronze();
        due.is("no thing", x.claim(0, 1), Due.BEYOND);
        x.thing(0, 100);
        due.is("thing -1", x.claim(-1, 1), Due.BEYOND);
        due.is("0 grams", x.claim(0, 0), Due.BEYOND);
        due.is("100000 grams", x.claim(0, 100000), Due.BEYOND);
        for (int i = 0; i < 10; i++) {
            due.is("claim " + i, x.claim(0, i == 9 ? 99999 : i + 1), i);
        }
        due.is("an 11th", x.claim(0, 1), Due.FULL);
        due.is("BEYOND ahead of FULL", x.claim(1, 1), Due.BEYOND);
        due.is("ten", x.count(2), 10);
        due.is("GRAMS of the thing stay", x.thingIs(0, 2), 100);
    }

    private static void claimsAre() {
        OldBronze x = new OldBronze();
        x.thing(0, 100);
        x.thing(0, 50);
        x.claim(1, 70);
        x.claim(1, 20);
        due.is("the thing", x.claimIs(0, 0), 1);
        due.is("grams", x.claimIs(1, 1), 20);
        due.is("it counts", x.claimIs(0, 2), 70);
        Due.text(x, "g/n", 1);
        due.is("it counts by a text", x.claimIs(0, 2), 25);
        due.is("it counts by a text, held", x.claimIs(1, 2), 20);
        due.is("grams stay", x.claimIs(0, 1), 70);
        due.is("no claim 2", x.claimIs(2, 0), Due.BEYOND);
        due.is("no claim -1", x.claimIs(-1, 0), Due.BEYOND);
        due.is("what 3", x.claimIs(0, 3), Due.BEYOND);
        due.is("what -1", x.claimIs(0, -1), Due.BEYOND);
    }

    private static void shares() {
        OldBronze x = new OldBronze();
        x.thing(0, 100);
        x.thing(0, 100);
        x.claim(0, 70);
        x.claim(1, 30);
        x.claim(0, 10);
        x.claim(1, 70);
        x.claim(0, 40);
        // thing 0: 70, 10, 40 of 100; thing 1: 30, 70 of 100
        int[][] want = {
            {33, 30, 10, 50, 33},
            {58, 30, 8, 70, 33},
            {70, 30, 10, 70, 20},
        };
        for (int law = 0; law < 3; law++) {
            for (int claim = 0; claim < 5; claim++) {
                due.is("share of " + claim + " by " + law, x.share(claim, law), want[law][claim]);
            }
        }
        due.is("left of 0 by even", x.left(0, 0), 24);
        due.is("left of 1 by even", x.left(1, 0), 20);
        due.is("left of 0 by as much", x.left(0, 1), 1);
        due.is("left of 1 by as much", x.left(1, 1), 0);
        due.is("left of 0 in order", x.left(0, 2), 0);
        due.is("left of 1 in order", x.left(1, 2), 0);
        due.is("law 3", x.share(0, 3), Due.BEYOND);
        due.is("law -1", x.share(0, -1), Due.BEYOND);
        due.is("claim 5", x.share(5, 0), Due.BEYOND);
        due.is("claim -1", x.share(-1, 0), Due.BEYOND);
    }

    private static void sharesWithText() {
        OldBronze x = new OldBronze();
        x.thing(0, 90);
        x.claim(0, 60);
        x.claim(0, 50);
        x.claim(0, 40);
        Due.text(x, "c*(c<55)", 1);
        // they count 0, 50, 40
        due.is("even, no more than counted", x.share(0, 0), 0);
        due.is("even by all that claim", x.share(1, 0), 30);
        due.is("as much, all of it", x.share(1, 1), 50);
        due.is("as much, all of it, too", x.share(2, 1), 40);
        due.is("in order", x.share(2, 2), 40);
        due.is("left even", x.left(0, 0), 30);
        due.is("left as much", x.left(0, 1), 0);
        x.melt(0, 1);
        // 79 grams
        due.is("as much by what all count", x.share(1, 1), 43);
        due.is("as much by what all count, too", x.share(2, 1), 35);
        due.is("the last in order", x.share(2, 2), 29);
    }

    private static void withoutGrams() {
        OldBronze x = new OldBronze();
        x.thing(0, 0);
        x.claim(0, 9);
        for (int law = 0; law < 3; law++) {
            due.is("share of nothing", x.share(0, law), 0);
            due.is("left of nothing", x.left(0, law), 0);
        }
        Due.text(x, "0", 1);
        for (int law = 0; law < 3; law++) {
            due.is("share of nothing counted", x.share(0, law), 0);
        }
    }

    private static void leftOver() {
        OldBronze x = new OldBronze();
        due.is("no thing", x.left(0, 0), Due.BEYOND);
        x.thing(0, 100);
        x.thing(0, 30);
        due.is("without claims", x.left(0, 1), 100);
        x.claim(0, 20);
        x.claim(0, 15);
        due.is("even", x.left(0, 0), 65);
        due.is("as much", x.left(0, 1), 65);
        due.is("in order", x.left(0, 2), 65);
        due.is("the other", x.left(1, 2), 30);
        due.is("thing 2", x.left(2, 0), Due.BEYOND);
        due.is("thing -1", x.left(-1, 0), Due.BEYOND);
        due.is("law 3", x.left(0, 3), Due.BEYOND);
        due.is("law -1", x.left(0, -1), Due.BEYOND);
    }

    private static void greatNumbers() {
        OldBronze x = new OldBronze();
        x.thing(0, 999989);
        for (int i = 0; i < 10; i++) {
            x.claim(0, 99999);
        }
        due.is("as much", x.share(9, 1), 99998);
        due.is("the last in order", x.share(9, 2), 99998);
        due.is("even", x.share(0, 0), 99998);
        due.is("left", x.left(0, 1), 9);
    }
}
