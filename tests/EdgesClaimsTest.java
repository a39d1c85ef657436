/** Terms 3 and promises 15 to 18: the sentences that name a bound, each with a test of its own. */
public final class EdgesClaimsTest {
    private static final Due due = new Due();

    public static void main(String[] args) {
        atMostTenClaims();
        gramsOfAClaim();
        thingsOfClaims();
        whatOfAClaim();
        claimsStayByMelting();
        evenIsCut();
        evenNoMoreThanCounted();
        asMuchUpToAllGrams();
        asMuchAboveIsCut();
        asMuchOfGreatNumbers();
        inOrderAsFarAsGramsGo();
        otherThingsDontShare();
        countedNone();
        lawsOfShares();
        leftBehindAllShares();
        leftWithoutClaims();
        leftOfNoGrams();
        due.end();
    }

    // "CLAIMS 0, 1, .. (at most 10)".
    private static void atMostTenClaims() {
        OldBronze x = new OldBronze();
        x.thing(0, 5);
        for (int i = 0; i < 10; i++) {
            due.is("claim", x.claim(0, 1), i);
        }
        due.is("an 11th", x.claim(0, 1), Due.FULL);
        due.is("ten", x.count(2), 10);
        due.is("the 10th is there", x.claimIs(9, 1), 1);
        due.is("the 11th isn't", x.claimIs(10, 1), Due.BEYOND);
    }

    // "GRAMS (1 .. 99999) of a THING are claimed."
    private static void gramsOfAClaim() {
        OldBronze x = new OldBronze();
        x.thing(0, 5);
        due.is("-1", x.claim(0, -1), Due.BEYOND);
        due.is("0", x.claim(0, 0), Due.BEYOND);
        due.is("1", x.claim(0, 1), 0);
        due.is("99999, more than there are", x.claim(0, 99999), 1);
        due.is("100000", x.claim(0, 100000), Due.BEYOND);
        due.is("it is", x.claimIs(1, 1), 99999);
        due.is("two", x.count(2), 2);
    }

    // The same: of a THING that is there, also one without GRAMS.
    private static void thingsOfClaims() {
        OldBronze x = new OldBronze();
        due.is("none is there", x.claim(0, 1), Due.BEYOND);
        x.thing(0, 5);
        x.thing(0, 0);
        due.is("-1", x.claim(-1, 1), Due.BEYOND);
        due.is("2", x.claim(2, 1), Due.BEYOND);
        due.is("1", x.claim(1, 1), 0);
        due.is("it is", x.claimIs(0, 0), 1);
    }

    // claimIs: "0 the THING, 1 GRAMS, 2 what it counts. BEYOND."
    private static void whatOfAClaim() {
        OldBronze x = new OldBronze();
        due.is("no claims", x.claimIs(0, 0), Due.BEYOND);
        x.thing(0, 5);
        x.claim(0, 7);
        due.is("-1", x.claimIs(0, -1), Due.BEYOND);
        due.is("0", x.claimIs(0, 0), 0);
        due.is("1", x.claimIs(0, 1), 7);
        due.is("2", x.claimIs(0, 2), 7);
        due.is("3", x.claimIs(0, 3), Due.BEYOND);
        due.is("claim -1", x.claimIs(-1, 0), Due.BEYOND);
        due.is("claim 1", x.claimIs(1, 0), Due.BEYOND);
    }

    // A CLAIM is what it was told, SHARES are of GRAMS as they are.
    private static void claimsStayByMelting() {
        OldBronze x = new OldBronze();
        x.thing(0, 800);
        x.claim(0, 500);
        x.claim(0, 500);
        due.is("even of 800", x.share(0, 0), 400);
        x.melt(0, 4);
        due.is("even of 400", x.share(0, 0), 200);
        due.is("as much of 400", x.share(1, 1), 200);
        due.is("in order of 400", x.share(1, 2), 0);
        due.is("it claims", x.claimIs(0, 1), 500);
    }

    private static OldBronze claimed(int grams, int... claims) {
        OldBronze x = new OldBronze();
        x.thing(0, grams);
        for (int claim : claims) {
            x.claim(0, claim);
        }
        return x;
    }

    private static void shares(OldBronze x, int law, int... want) {
        for (int claim = 0; claim < want.length; claim++) {
            due.is("share of " + claim + " by " + law, x.share(claim, law), want[claim]);
        }
    }

    // "0 EVEN: GRAMS by how many claim it (cut)".
    private static void evenIsCut() {
        shares(claimed(8, 9, 9, 9), 0, 2, 2, 2);
        shares(claimed(9, 9, 9, 9), 0, 3, 3, 3);
        shares(claimed(2, 9, 9, 9), 0, 0, 0, 0);
        shares(claimed(0, 9), 0, 0);
        shares(claimed(9, 9), 0, 9);
        shares(claimed(9, 1, 1, 1, 1, 1, 1, 1, 1, 1, 1), 0, 0, 0, 0, 0, 0, 0, 0, 0, 0, 0);
        shares(claimed(10, 1, 1, 1, 1, 1, 1, 1, 1, 1, 1), 0, 1, 1, 1, 1, 1, 1, 1, 1, 1, 1);
    }

    // "no more than the CLAIM counts".
    private static void evenNoMoreThanCounted() {
        shares(claimed(9, 2, 3, 4), 0, 2, 3, 3);
        shares(claimed(9999999, 99999), 0, 99999);
        OldBronze x = claimed(9, 9, 9);
        Due.text(x, "c/3", 1);
        shares(x, 0, 3, 3);
        Due.text(x, "c/2", 1);
        shares(x, 0, 4, 4);
        Due.text(x, "c/2+1", 1);
        shares(x, 0, 4, 4);
    }

    // "1 AS MUCH: if all that claim it count together no more than GRAMS: what it counts".
    private static void asMuchUpToAllGrams() {
        shares(claimed(61, 10, 20, 30), 1, 10, 20, 30);
        shares(claimed(60, 10, 20, 30), 1, 10, 20, 30);
        shares(claimed(59, 10, 20, 30), 1, 9, 19, 29);
    }

    // "else GRAMS times what it counts by all that (cut)".
    private static void asMuchAboveIsCut() {
        shares(claimed(10, 1, 2, 9), 1, 0, 1, 7);
        shares(claimed(1, 1, 1), 1, 0, 0);
        shares(claimed(0, 5, 5), 1, 0, 0);
        shares(claimed(99998, 99999), 1, 99998);
    }

    // The same, where products don't fit in an int.
    private static void asMuchOfGreatNumbers() {
        int[] claims = new int[10];
        java.util.Arrays.fill(claims, 99999);
        OldBronze x = claimed(999989, claims);
        due.is("of nearly all", x.share(0, 1), 99998);
        due.is("left of it", x.left(0, 1), 9);
        OldBronze y = claimed(999990, claims);
        due.is("of all", y.share(9, 1), 99999);
        due.is("nothing left", y.left(0, 1), 0);
        OldBronze z = claimed(9999999, claims);
        due.is("of more", z.share(9, 1), 99999);
        due.is("the rest", z.left(0, 1), 9999999 - 999990);
    }

    // "2 IN ORDER: CLAIMS of it by numbers, each what it counts, as far as GRAMS go."
    private static void inOrderAsFarAsGramsGo() {
        shares(claimed(61, 10, 20, 30), 2, 10, 20, 30);
        shares(claimed(60, 10, 20, 30), 2, 10, 20, 30);
        shares(claimed(59, 10, 20, 30), 2, 10, 20, 29);
        shares(claimed(31, 10, 20, 30), 2, 10, 20, 1);
        shares(claimed(30, 10, 20, 30), 2, 10, 20, 0);
        shares(claimed(29, 10, 20, 30), 2, 10, 19, 0);
        shares(claimed(9, 10, 20, 30), 2, 9, 0, 0);
        shares(claimed(0, 10, 20, 30), 2, 0, 0, 0);
    }

    // "how many claim it", "all that claim it", "CLAIMS of it": not those of others.
    private static void otherThingsDontShare() {
        OldBronze x = new OldBronze();
        x.thing(0, 30);
        x.thing(0, 30);
        x.claim(1, 30);
        x.claim(0, 30);
        for (int law = 0; law < 3; law++) {
            due.is("first", x.share(0, law), 30);
            due.is("second", x.share(1, law), 30);
            due.is("left", x.left(0, law) + x.left(1, law), 0);
        }
    }

    // A CLAIM that counts 0 claims all the same.
    private static void countedNone() {
        OldBronze x = claimed(30, 10, 40);
        Due.text(x, "c-10", 1);
        shares(x, 0, 0, 15);
        shares(x, 1, 0, 30);
        shares(x, 2, 0, 30);
        Due.text(x, "0", 1);
        for (int law = 0; law < 3; law++) {
            shares(x, law, 0, 0);
            due.is("all is left", x.left(0, law), 30);
        }
    }

    // LAWS 0, 1, 2.
    private static void lawsOfShares() {
        OldBronze x = claimed(9, 5, 5);
        for (int law = -1; law <= 3; law++) {
            boolean isLaw = law >= 0 && law <= 2;
            due.is("share by " + law, x.share(0, law), isLaw ? law == 2 ? 5 : 4 : Due.BEYOND);
            due.is("left by " + law, x.left(0, law), isLaw ? law == 2 ? 0 : 1 : Due.BEYOND);
        }
        due.is("claim -1", x.share(-1, 0), Due.BEYOND);
        due.is("claim 1", x.share(1, 0), 4);
        due.is("claim 2", x.share(2, 0), Due.BEYOND);
        due.is("thing -1", x.left(-1, 0), Due.BEYOND);
        due.is("thing 1", x.left(1, 0), Due.BEYOND);
    }

    // left: "What is left of a THING behind all SHARES by a LAW."
    private static void leftBehindAllShares() {
        OldBronze x = claimed(100, 70, 50, 10);
        due.is("even: 33, 33, 10", x.left(0, 0), 24);
        due.is("as much: 53, 38, 7", x.left(0, 1), 2);
        due.is("in order: 70, 30, 0", x.left(0, 2), 0);
        due.is("GRAMS stay", x.thingIs(0, 2), 100);
    }

    // The same, without CLAIMS of it.
    private static void leftWithoutClaims() {
        OldBronze x = claimed(9999999);
        for (int law = 0; law < 3; law++) {
            due.is("all", x.left(0, law), 9999999);
        }
    }

    // The same, of a THING without GRAMS.
    private static void leftOfNoGrams() {
        OldBronze x = claimed(0, 5, 99999);
        for (int law = 0; law < 3; law++) {
            due.is("nothing", x.left(0, law), 0);
        }
    }
}
