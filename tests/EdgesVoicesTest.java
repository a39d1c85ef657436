/** Terms 4 and promises 27, 28: the sentences that name a bound, each with a test of its own. */
public final class EdgesVoicesTest {
    private static final int LEAST = Integer.MIN_VALUE;
    private static final int GREATEST = Integer.MAX_VALUE;

    private static final Due due = new Due();

    public static void main(String[] args) {
        voicesOfAThing();
        bodiesThatWrap();
        partsAreCut();
        whatIsJoined();
        partsOfTheLeastInt();
        partedWhereNumbersAreAlike();
        partedIsAllThatIsAnswered();
        partedBodiesAllTheSame();
        partedOnlyInParts();
        numbersAndKindsAsTheyAre();
        theLatestTraceOnly();
        aRefusedVoiceLeavesTheTrace();
        noTraceAtFirst();
        theLongestTrace();
        placesOfTheTrace();
        answersLikeErrors();
        due.end();
    }

    private static OldBronze made(int... kms) {
        OldBronze x = new OldBronze();
        for (int km : kms) {
            x.thing(km, 1);
        }
        return x;
    }

    private static void trace(String of, OldBronze x, int... bodies) {
        due.is(of + ", bodies", x.count(9), bodies.length);
        for (int i = 0; i < bodies.length; i++) {
            due.is(of + ", body " + i, x.body(i), bodies[i]);
        }
        due.is(of + ", one more", x.body(bodies.length), Due.NONE);
    }

    // voice: "A VOICE of a THING. BEYOND."; VOICES 0 .. 3.
    private static void voicesOfAThing() {
        OldBronze none = made();
        due.is("no things", none.voice(0, 0, 0), Due.BEYOND);
        OldBronze x = made(9, 9);
        due.is("thing -1", x.voice(-1, 0, 0), Due.BEYOND);
        due.is("thing 0", x.voice(0, 0, 0), 0);
        due.is("thing 1", x.voice(1, 0, 0), 1);
        due.is("thing 2", x.voice(2, 0, 0), Due.BEYOND);
        due.is("voice -1", x.voice(0, -1, 0), Due.BEYOND);
        due.is("voice 3", x.voice(0, 3, 18), 2);
        due.is("voice 4", x.voice(0, 4, 18), Due.BEYOND);
    }

    // "with a number x (ints that wrap)".
    private static void bodiesThatWrap() {
        OldBronze x = made(7, 107, 207, 307, 407, 507, 607);
        due.is("0 rings", x.voice(0, 0, GREATEST), GREATEST);
        due.is("1 rings", x.voice(1, 0, LEAST), LEAST + 1 - 4);
        due.is("2 rings", x.voice(2, 0, GREATEST), GREATEST + 2);
        due.is("0 weighs the greatest", x.voice(0, 1, GREATEST), -2);
        due.is("0 weighs the least", x.voice(0, 1, LEAST), 0);
        due.is("2 weighs the least", x.voice(2, 1, 0x3ffffffe), LEAST);
        due.is("0 melts the least", x.voice(0, 2, LEAST), -7);
        due.is("3 melts the least", x.voice(3, 2, LEAST), LEAST + 6 - 7);
        due.is("3 melts -1", x.voice(3, 2, -1), -1);
        due.is("4 rings", x.voice(4, 0, GREATEST), GREATEST * 3);
        due.is("5 weighs", x.voice(5, 1, GREATEST), -(2 * (LEAST + 5)));
        due.is("6 rings", x.voice(6, 0, GREATEST), 6);
    }

    // "13 parts: x by (m - k), cut".
    private static void partsAreCut() {
        OldBronze x = made(3, 4, 0);
        due.is("7 by 3", x.voice(0, 3, 7), 2);
        due.is("-7 by 3", x.voice(0, 3, -7), -2);
        due.is("2 by 3", x.voice(0, 3, 2), 0);
        due.is("7 by -2", x.voice(2, 3, 7), -3);
        due.is("-7 by -2", x.voice(2, 3, -7), 3);
        due.is("0 by 3", x.voice(1, 3, 0), 0);
    }

    // "21 parts: super.parts(x) + weighs(1)"; "51 melts: super.melts(x) ^ k".
    private static void whatIsJoined() {
        OldBronze x = made(0, 103, 405, 409, 0, 0, 0, 450);
        due.is("a BELL: 9 by 2, and 2 times 1 + 1 - 4", x.voice(1, 3, 9), 4 - 4);
        due.is("a CHIME: 9 by 3, and 6 times 1 + 2 - 4", x.voice(2, 3, 9), 3 - 6);
        due.is("a CHIME: 6 times 9 + 3 - 4, less 9, ^ 3", x.voice(3, 2, 9), 39 ^ 3);
        due.is("a CHIME: 6 times 4 + 7 - 4, less 50, ^ 7", x.voice(7, 2, 4), -8 ^ 7);
    }

    // The same: the least int by -1 wraps.
    private static void partsOfTheLeastInt() {
        OldBronze x = made(50, 0, 99);
        due.is("by -1", x.voice(1, 3, LEAST), LEAST);
        due.is("by 97", x.voice(2, 3, LEAST), LEAST / 97);
        due.is("the greatest by -1", x.voice(1, 3, GREATEST), -GREATEST);
    }

    // "(PARTED if that is 0": m is k; one more or less isn't.
    private static void partedWhereNumbersAreAlike() {
        OldBronze x = made(0, 0, 2, 4, 4, 6);
        due.is("0 - 0", x.voice(0, 3, 9), Due.PARTED);
        due.is("0 - 1", x.voice(1, 3, 9), -9);
        due.is("2 - 2", x.voice(2, 3, 9), Due.PARTED);
        due.is("4 - 3", x.voice(3, 3, 9), 9);
        due.is("4 - 4", x.voice(4, 3, 0), Due.PARTED);
        due.is("6 - 5", x.voice(5, 3, 9), 9);
        x.set(4, 1, 5);
        due.is("5 - 4", x.voice(4, 3, 9), 9);
        due.is("told", x.told(6), 3);
    }

    // "that is all that voice() answers then": of all KINDS.
    private static void partedIsAllThatIsAnswered() {
        for (int kind = 0; kind < 7; kind++) {
            OldBronze x = made(100 * kind);
            due.is("kind " + kind, x.voice(0, 3, 99), Due.PARTED);
            due.is("told", x.told(6), 1);
            due.is("not the next one", x.voice(0, 0, 99) == Due.PARTED ? 1 : 0, 0);
            due.is("nor told", x.told(6), 1);
        }
    }

    // "THE TRACE is of its BODIES all the same".
    private static void partedBodiesAllTheSame() {
        int[][] bodies = {{13}, {21, 13, 11, 20, 10}, {13}, {13}, {21, 13, 11, 50, 20, 10}, {13},
            {13}};
        for (int kind = 0; kind < 7; kind++) {
            for (int m = 0; m < 2; m++) {
                OldBronze x = made(100 * kind + m);
                x.voice(0, 3, 5);
                trace("kind " + kind + ", m " + m, x, bodies[kind]);
            }
        }
    }

    // PARTED is of VOICE 3 alone.
    private static void partedOnlyInParts() {
        for (int kind = 0; kind < 7; kind++) {
            OldBronze x = made(100 * kind);
            for (int voice = 0; voice < 3; voice++) {
                due.is("an answer", x.voice(0, voice, 5) > Due.LOW ? 1 : 0, 1);
            }
            due.is("none told", x.told(6), 0);
        }
    }

    // "k is its number, m as told"; "the BODY of its KIND".
    private static void numbersAndKindsAsTheyAre() {
        OldBronze x = made(0, 0, 0, 0, 0, 0, 0, 0, 0, 0, 0, 99);
        due.is("k 11", x.voice(11, 0, 0), 11);
        due.is("m 99", x.voice(11, 2, 0), 22 - 99);
        x.set(11, 1, 98);
        due.is("m 98", x.voice(11, 2, 0), 22 - 98);
        x.set(11, 0, 6);
        due.is("a SCRAP", x.voice(11, 1, 0), 12 + 98);
        x.melt(0, 8);
        due.is("without grams", x.voice(0, 0, 7), 7);
    }

    // "the numbers of BODIES of the latest voice()".
    private static void theLatestTraceOnly() {
        OldBronze x = made(450);
        x.voice(0, 2, 1);
        trace("melts", x, 51, 12, 11, 50, 20, 10);
        x.voice(0, 0, 1);
        trace("rings", x, 50, 20, 10);
        x.voice(0, 1, 1);
        trace("weighs", x, 11, 50, 20, 10);
    }

    // "one that answers an ERROR changes nothing": a voice() BEYOND is no latest one.
    private static void aRefusedVoiceLeavesTheTrace() {
        OldBronze x = made(250);
        x.voice(0, 1, 1);
        x.voice(1, 0, 1);
        x.voice(0, 4, 1);
        x.voice(-1, -1, 1);
        trace("weighs", x, 30, 11, 10);
    }

    // body: "NONE: there is none such."
    private static void noTraceAtFirst() {
        OldBronze x = made(0);
        trace("at first", x);
        x.voice(9, 0, 0);
        trace("behind one that was refused", x);
    }

    // "the first 30": the longest has six.
    private static void theLongestTrace() {
        int longest = 0;
        for (int kind = 0; kind < 7; kind++) {
            for (int voice = 0; voice < 4; voice++) {
                OldBronze x = made(100 * kind + 9);
                x.voice(0, voice, 3);
                longest = Math.max(longest, x.count(9));
                for (int i = 0; i < x.count(9); i++) {
                    due.is("it is a body", x.body(i) >= 10 && x.body(i) <= 71 ? 1 : 0, 1);
                }
                due.is("no more of them", x.body(x.count(9)), Due.NONE);
                due.is("not the 31st", x.body(30), Due.NONE);
            }
        }
        due.is("the longest", longest, 6);
    }

    // "THE TRACE's i-th", from 0 on.
    private static void placesOfTheTrace() {
        OldBronze x = made(150);
        x.voice(0, 0, 0);
        due.is("-1", x.body(-1), Due.NONE);
        due.is("0", x.body(0), 20);
        due.is("1", x.body(1), 10);
        due.is("2", x.body(2), Due.NONE);
        due.is("the greatest", x.body(GREATEST), Due.NONE);
        due.is("the least", x.body(LEAST), Due.NONE);
        due.is("told", x.told(2), 4);
        due.is("the trace stays", x.count(9), 2);
    }

    // An int that an ERROR is like is none where it was worked out.
    private static void answersLikeErrors() {
        OldBronze x = made(9);
        for (int error = Due.PARTED; error < Due.LOW; error++) {
            due.is("like an ERROR", x.voice(0, 0, error), error);
        }
        for (int k = 1; k <= 6; k++) {
            due.is("none told", x.told(k), 0);
        }
    }
}
