/**
 * Each ERROR of each act: that it is answered, ahead of those that are asked later, and that the
 * refused call changes nothing but what told() tells.
 */
public final class RefusalsTest {
    private static final int LEAST = Integer.MIN_VALUE;
    private static final int GREATEST = Integer.MAX_VALUE;

    private static final Due due = new Due();
    private static final Twins twins = new Twins(due);

    public static void main(String[] args) {
        things();
        casts();
        years();
        texts();
        claims();
        papers();
        fits();
        voices();
        sheets();
        moves();
        images();
        due.end();
    }

    private static OldBronze bare() {
        return new OldBronze();
    }

    /** A bit of everything; thing 2 has no GRAMS, sheet 3 is missing. */
    private static OldBronze rich() {
        OldBronze x = new OldBronze();
        x.thing(107, 1000);
        x.thing(250, 800);
        x.thing(302, 0);
        x.thing(499, 650);
        x.thing(4, 77);
        x.set(0, 3, 120);
        x.set(3, 4, 99);
        x.melt(0, 2);
        x.claim(0, 300);
        x.claim(3, 900);
        x.paper(0, 2, 4);
        x.paper(1, 2, 8);
        x.weigh(2, 775, 99);
        Due.text(x, "g+m", 0);
        Due.text(x, "c-9", 1);
        Due.feed(x, "m*9");
        x.tell(2);
        x.sheet(0, 8, 7);
        fill(x, 0, 0, 1, 3, 4, 3, 8, 1);
        x.sheet(1, 32, 5);
        fill(x, 1, 750, 800, 0, 650, 77);
        x.sheet(2, 8, 3);
        fill(x, 2, 3, 2, 1);
        x.voice(3, 3, 11);
        x.image();
        x.years(2);
        x.seed(77);
        return x;
    }

    private static void fill(OldBronze x, int sheet, int... numbers) {
        for (int i = 0; i < numbers.length; i++) {
            x.put(sheet, i, numbers[i]);
        }
    }

    /** No room for anything more; each FIT waits that there is room for. */
    private static OldBronze full() {
        OldBronze x = rich();
        for (int thing = 5; thing < 12; thing++) {
            x.thing(7 * thing, 9 * thing);
        }
        for (int claim = 2; claim < 10; claim++) {
            x.claim(claim, 10 * claim);
        }
        for (int paper = 2; paper < 6; paper++) {
            x.paper(paper, 0, paper);
        }
        x.forget(1);
        for (int weighing = 0; weighing < 8; weighing++) {
            x.weigh(4, 77, 99);
        }
        for (int i = x.count(7); i < 60; i++) {
            x.feed('+', 1);
        }
        for (int i = x.count(8); i < 24; i++) {
            x.tell(i);
        }
        return x;
    }

    /** Eleven things, and the crucible has GRAMS. */
    private static OldBronze nearlyFull() {
        OldBronze x = rich();
        while (x.count(0) < 11) {
            x.thing(0, 3);
        }
        return x;
    }

    /** The crucible has no GRAMS. */
    private static OldBronze cold() {
        OldBronze x = rich();
        x.cast(5, 0, 0);
        return x;
    }

    /** No HISTORY fits. */
    private static OldBronze unfit() {
        OldBronze x = rich();
        x.weigh(4, 9999, 0);
        return x;
    }

    /** In the year 9999. */
    private static OldBronze old() {
        OldBronze x = new OldBronze();
        x.thing(150, 9000);
        for (int i = 0; i < 166; i++) {
            x.years(60);
        }
        x.years(39);
        return x;
    }

    private static OldBronze ripe() {
        OldBronze x = new OldBronze();
        x.thing(150, 9000);
        for (int i = 0; i < 166; i++) {
            x.years(60);
        }
        return x;
    }

    private static void beyond(String name, Twins.Call call) {
        twins.refused(name, RefusalsTest::rich, Due.BEYOND, call);
    }

    private static void things() {
        for (int km : new int[] {LEAST, -1, 700, GREATEST}) {
            beyond("thing(" + km + ", 1)", x -> x.thing(km, 1));
        }
        for (int grams : new int[] {LEAST, -1, 10000000, GREATEST}) {
            beyond("thing(0, " + grams + ")", x -> x.thing(0, grams));
        }
        twins.refused("thing, a 13th", RefusalsTest::full, Due.FULL, x -> x.thing(0, 0));
        twins.refused("thing, BEYOND ahead of FULL", RefusalsTest::full, Due.BEYOND,
                x -> x.thing(700, 0));
        twins.refused("thing, BEYOND of grams ahead of FULL", RefusalsTest::full, Due.BEYOND,
                x -> x.thing(0, -1));
        twins.refused("thingIs(0, 0) of none", RefusalsTest::bare, Due.BEYOND,
                x -> x.thingIs(0, 0));
        for (int thing : new int[] {LEAST, -1, 5, 12, GREATEST}) {
            beyond("thingIs(" + thing + ", 2)", x -> x.thingIs(thing, 2));
            beyond("as(" + thing + ", 0)", x -> x.as(thing, 0));
            beyond("set(" + thing + ", 1, 1)", x -> x.set(thing, 1, 1));
            beyond("melt(" + thing + ", 1)", x -> x.melt(thing, 1));
        }
        for (int what : new int[] {LEAST, -1, 11, GREATEST}) {
            beyond("thingIs(0, " + what + ")", x -> x.thingIs(0, what));
        }
        for (int kind : new int[] {LEAST, -1, 7, GREATEST}) {
            beyond("as(0, " + kind + ")", x -> x.as(0, kind));
            beyond("set(0, 0, " + kind + ")", x -> x.set(0, 0, kind));
        }
        twins.refused("as, another kind", RefusalsTest::rich, Due.KIND, x -> x.as(0, 2));
        twins.refused("as, a kind below", RefusalsTest::rich, Due.KIND, x -> x.as(0, 4));
        sets();
        for (int eighths : new int[] {LEAST, -1, 0, 9, GREATEST}) {
            beyond("melt(0, " + eighths + ")", x -> x.melt(0, eighths));
        }
        twins.refused("melt, no GRAMS", RefusalsTest::rich, Due.STATE, x -> x.melt(2, 1));
        beyond("melt, BEYOND ahead of STATE", x -> x.melt(2, 9));
        for (int what : new int[] {LEAST, -1, 0, 1, 10, GREATEST}) {
            beyond("crucible(" + what + ")", x -> x.crucible(what));
        }
    }

    private static void sets() {
        for (int m : new int[] {LEAST, -1, 100, GREATEST}) {
            beyond("set(0, 1, " + m + ")", x -> x.set(0, 1, m));
        }
        for (int what : new int[] {LEAST, -1, 2, 6, 9, 10, 11, GREATEST}) {
            beyond("set(0, " + what + ", 0)", x -> x.set(0, what, 0));
        }
        for (int trace = 3; trace <= 5; trace++) {
            int what = trace;
            beyond("set(4, " + what + ", -1)", x -> x.set(4, what, -1));
            beyond("set(4, " + what + ", 78)", x -> x.set(4, what, 78));
            beyond("set(2, " + what + ", 1)", x -> x.set(2, what, 1));
        }
    }

    private static void casts() {
        for (int km : new int[] {LEAST, -1, 700, GREATEST}) {
            beyond("cast(" + km + ", 0, 0)", x -> x.cast(km, 0, 0));
        }
        for (int tin : new int[] {LEAST, -1, 10000, GREATEST}) {
            beyond("cast(0, " + tin + ", 0)", x -> x.cast(0, tin, 0));
        }
        for (int law : new int[] {LEAST, -10, -1, 1, 9, 11, 985, 991, 999, 1000, GREATEST}) {
            beyond("cast(0, 0, " + law + ")", x -> x.cast(0, 0, law));
        }
        twins.refused("cast, no GRAMS", RefusalsTest::cold, Due.STATE, x -> x.cast(0, 9, 0));
        twins.refused("cast, BEYOND ahead of STATE", RefusalsTest::cold, Due.BEYOND,
                x -> x.cast(0, 0, 1));
        twins.refused("cast, no room", RefusalsTest::full, Due.FULL, x -> x.cast(0, 9, 0));
        twins.refused("cast, no room for the SCRAP", RefusalsTest::nearlyFull, Due.FULL,
                x -> x.cast(0, 9, 910));
        twins.refused("cast, BEYOND ahead of FULL", RefusalsTest::full, Due.BEYOND,
                x -> x.cast(0, 10000, 0));
        twins.refused("cast, STATE ahead of FULL", () -> {
            OldBronze x = nearlyFull();
            x.cast(0, 0, 0);
            return x;
        }, Due.STATE, x -> x.cast(0, 0, 0));
    }

    private static void years() {
        for (int n : new int[] {LEAST, -1, 0, 61, GREATEST}) {
            beyond("years(" + n + ")", x -> x.years(n));
        }
        for (int n : new int[] {LEAST, -1, 61, GREATEST}) {
            beyond("then(" + n + ", 0, 2)", x -> x.then(n, 0, 2));
        }
        for (int thing : new int[] {LEAST, -1, 5, GREATEST}) {
            beyond("then(0, " + thing + ", 2)", x -> x.then(0, thing, 2));
        }
        for (int what : new int[] {LEAST, -1, 11, GREATEST}) {
            beyond("then(0, 0, " + what + ")", x -> x.then(0, 0, what));
        }
        twins.refused("years(1) in 9999", RefusalsTest::old, Due.STATE, x -> x.years(1));
        twins.refused("years(60) in 9999", RefusalsTest::old, Due.STATE, x -> x.years(60));
        twins.refused("years(40) in 9960", RefusalsTest::ripe, Due.STATE, x -> x.years(40));
        twins.refused("years, BEYOND ahead of STATE", RefusalsTest::old, Due.BEYOND,
                x -> x.years(61));
    }

    private static void texts() {
        for (int n : new int[] {LEAST, -1, 0, 9, GREATEST}) {
            beyond("feed(1, " + n + ")", x -> x.feed(1, n));
        }
        twins.refused("feed, full", RefusalsTest::full, Due.FULL, x -> x.feed('1', 1));
        twins.refused("feed, BEYOND ahead of FULL", RefusalsTest::full, Due.BEYOND,
                x -> x.feed('1', 9));
        twins.refused("feed, room for less", () -> {
            OldBronze x = rich();
            for (int i = 0; i < 7; i++) {
                x.feed(0x2b312b312b312b31L, 8);
            }
            return x;
        }, Due.FULL, x -> x.feed(0x31L, 2));
        for (int use : new int[] {LEAST, -1, 2, GREATEST}) {
            beyond("text(" + use + ")", x -> x.text(use));
            beyond("untell(" + use + ")", x -> x.untell(use));
        }
    }

    private static void claims() {
        for (int thing : new int[] {LEAST, -1, 5, GREATEST}) {
            beyond("claim(" + thing + ", 1)", x -> x.claim(thing, 1));
            beyond("left(" + thing + ", 0)", x -> x.left(thing, 0));
        }
        for (int grams : new int[] {LEAST, -1, 0, 100000, GREATEST}) {
            beyond("claim(0, " + grams + ")", x -> x.claim(0, grams));
        }
        twins.refused("claim, an 11th", RefusalsTest::full, Due.FULL, x -> x.claim(0, 1));
        twins.refused("claim, BEYOND ahead of FULL", RefusalsTest::full, Due.BEYOND,
                x -> x.claim(0, 0));
        for (int claim : new int[] {LEAST, -1, 2, GREATEST}) {
            beyond("claimIs(" + claim + ", 0)", x -> x.claimIs(claim, 0));
            beyond("share(" + claim + ", 0)", x -> x.share(claim, 0));
        }
        for (int what : new int[] {LEAST, -1, 3, GREATEST}) {
            beyond("claimIs(0, " + what + ")", x -> x.claimIs(0, what));
            beyond("share(0, " + what + ")", x -> x.share(0, what));
            beyond("left(0, " + what + ")", x -> x.left(0, what));
        }
    }

    private static void papers() {
        for (int thing : new int[] {LEAST, -1, 5, GREATEST}) {
            beyond("paper(" + thing + ", 0, 1)", x -> x.paper(thing, 0, 1));
            beyond("paper(0, " + thing + ", 1)", x -> x.paper(0, thing, 1));
            beyond("weigh(" + thing + ", 0, 0)", x -> x.weigh(thing, 0, 0));
            beyond("by(0, " + thing + ", 2)", x -> x.by(0, thing, 2));
        }
        beyond("paper(1, 1, 1)", x -> x.paper(1, 1, 1));
        for (int eighths : new int[] {LEAST, -1, 0, 9, GREATEST}) {
            beyond("paper(0, 1, " + eighths + ")", x -> x.paper(0, 1, eighths));
        }
        twins.refused("paper, a 7th", RefusalsTest::full, Due.FULL, x -> x.paper(0, 1, 1));
        twins.refused("paper, BEYOND ahead of FULL", RefusalsTest::full, Due.BEYOND,
                x -> x.paper(3, 3, 1));
        for (int grams : new int[] {LEAST, -1, 10000000, GREATEST}) {
            beyond("weigh(0, " + grams + ", 0)", x -> x.weigh(0, grams, 0));
        }
        for (int slip : new int[] {LEAST, -1, 100, GREATEST}) {
            beyond("weigh(0, 0, " + slip + ")", x -> x.weigh(0, 0, slip));
        }
        twins.refused("weigh, a 9th", RefusalsTest::full, Due.FULL, x -> x.weigh(0, 0, 0));
        twins.refused("weigh, BEYOND ahead of FULL", RefusalsTest::full, Due.BEYOND,
                x -> x.weigh(0, 0, 100));
        for (int what : new int[] {LEAST, -1, 2, GREATEST}) {
            beyond("forget(" + what + ")", x -> x.forget(what));
        }
        for (int history : new int[] {LEAST, -1, 4, 64, GREATEST}) {
            beyond("by(" + history + ", 0, 2)", x -> x.by(history, 0, 2));
        }
        for (int what : new int[] {LEAST, -1, 0, 1, 10, GREATEST}) {
            beyond("by(0, 0, " + what + ")", x -> x.by(0, 0, what));
        }
        twins.refused("by, without papers", RefusalsTest::bare, Due.BEYOND, x -> x.by(0, 0, 2));
    }

    private static void fits() {
        for (int what : new int[] {LEAST, -1, 5, GREATEST}) {
            beyond("fits(" + what + ")", x -> x.fits(what));
        }
        twins.refused("fits(1), none", RefusalsTest::unfit, Due.NONE, x -> x.fits(1));
        twins.refused("fits(4), none", RefusalsTest::unfit, Due.NONE, x -> x.fits(4));
        for (int thing : new int[] {LEAST, -1, 5, GREATEST}) {
            beyond("span(" + thing + ", 0, 0)", x -> x.span(thing, 0, 0));
        }
        for (int first : new int[] {LEAST, -1, 4, GREATEST}) {
            beyond("span(0, " + first + ", 0)", x -> x.span(0, first, 0));
            beyond("most(" + first + ", 0, 0)", x -> x.most(first, 0, 0));
            beyond("most(0, " + first + ", 0)", x -> x.most(0, first, 0));
        }
        for (int what : new int[] {LEAST, -1, 2, GREATEST}) {
            beyond("span(0, 0, " + what + ")", x -> x.span(0, 0, what));
            beyond("most(0, 0, " + what + ")", x -> x.most(0, 0, what));
        }
        twins.refused("span, none fits", RefusalsTest::unfit, Due.NONE, x -> x.span(0, 0, 0));
        twins.refused("span, BEYOND ahead of NONE", RefusalsTest::unfit, Due.BEYOND,
                x -> x.span(0, 4, 0));
        twins.refused("next, none fits", RefusalsTest::unfit, Due.NONE, x -> x.next());
        twins.refused("next, no things", RefusalsTest::bare, Due.NONE, x -> x.next());
    }

    private static void voices() {
        for (int thing : new int[] {LEAST, -1, 5, GREATEST}) {
            beyond("voice(" + thing + ", 0, 0)", x -> x.voice(thing, 0, 0));
        }
        for (int voice : new int[] {LEAST, -1, 4, GREATEST}) {
            beyond("voice(0, " + voice + ", 0)", x -> x.voice(0, voice, 0));
        }
        // thing 4 is a THING with m 4: one BODY, which THE TRACE has already
        twins.refused("voice, PARTED", () -> {
            OldBronze x = rich();
            x.voice(4, 3, 1);
            return x;
        }, Due.PARTED, x -> x.voice(4, 3, 1));
        for (int i : new int[] {LEAST, -1, 6, 30, GREATEST}) {
            twins.refused("body(" + i + ")", RefusalsTest::rich, Due.NONE, x -> x.body(i));
        }
        twins.refused("body(0) of none", RefusalsTest::bare, Due.NONE, x -> x.body(0));
    }

    private static void sheets() {
        for (int sheet : new int[] {LEAST, -1, 4, GREATEST}) {
            beyond("sheet(" + sheet + ", 8, 1)", x -> x.sheet(sheet, 8, 1));
            beyond("sheet(" + sheet + ", 8, -1)", x -> x.sheet(sheet, 8, -1));
            beyond("sheet(" + sheet + ", 0, 0)", x -> x.sheet(sheet, 0, 0));
            beyond("put(" + sheet + ", 0, 0)", x -> x.put(sheet, 0, 0));
            beyond("papers(" + sheet + ")", x -> x.papers(sheet));
            beyond("judge(" + sheet + ", 0)", x -> x.judge(sheet, 0));
        }
        for (int bits : new int[] {LEAST, -8, -1, 1, 7, 9, 15, 17, 24, 31, 33, 64, GREATEST}) {
            beyond("sheet(0, " + bits + ", 1)", x -> x.sheet(0, bits, 1));
            beyond("sheet(0, " + bits + ", -1)", x -> x.sheet(0, bits, -1));
        }
        for (int bits : new int[] {8, 16, 32}) {
            for (int n : new int[] {LEAST, -1}) {
                twins.refused("sheet(0, " + bits + ", " + n + ")", RefusalsTest::rich,
                        Due.STATE, x -> x.sheet(0, bits, n));
            }
            beyond("sheet(0, " + bits + ", 25)", x -> x.sheet(0, bits, 25));
            beyond("sheet(0, " + bits + ", greatest)", x -> x.sheet(0, bits, GREATEST));
        }
        for (int i : new int[] {LEAST, -1, 7, 24, GREATEST}) {
            beyond("put(0, " + i + ", 1)", x -> x.put(0, i, 1));
            twins.refused("put(3, " + i + ", 1)", RefusalsTest::rich, Due.NONE,
                    x -> x.put(3, i, 1));
        }
        twins.refused("put of none", RefusalsTest::bare, Due.NONE, x -> x.put(0, 0, 0));
        twins.refused("papers(3)", RefusalsTest::rich, Due.NONE, x -> x.papers(3));
        twins.refused("judge(3, 0)", RefusalsTest::rich, Due.NONE, x -> x.judge(3, 0));
        for (int history : new int[] {LEAST, -1, 4, 64, GREATEST}) {
            beyond("judge(1, " + history + ")", x -> x.judge(1, history));
            beyond("judge(3, " + history + ")", x -> x.judge(3, history));
        }
    }

    private static void moves() {
        for (int sheet : new int[] {LEAST, -1, 4, GREATEST}) {
            beyond("move(" + sheet + ", 0, 0, 0, 1)", x -> x.move(sheet, 0, 0, 0, 1));
            beyond("move(0, 0, " + sheet + ", 0, 1)", x -> x.move(0, 0, sheet, 0, 1));
            beyond("move(3, 0, " + sheet + ", 0, 1)", x -> x.move(3, 0, sheet, 0, 1));
        }
        for (int[] at : new int[][] {{3, 0}, {0, 3}, {3, 3}, {1, 3}}) {
            twins.refused("move, missing", RefusalsTest::rich, Due.NONE,
                    x -> x.move(at[0], 0, at[1], 0, 1));
            twins.refused("move, NONE ahead of BEYOND", RefusalsTest::rich, Due.NONE,
                    x -> x.move(at[0], -1, at[1], 9, -1));
        }
        twins.refused("move, unlike", RefusalsTest::rich, Due.KIND, x -> x.move(0, 0, 1, 0, 1));
        twins.refused("move, KIND ahead of BEYOND", RefusalsTest::rich, Due.KIND,
                x -> x.move(1, -1, 0, 99, -1));
        // sheet 0 has seven numbers, sheet 2 three, both of 8 bits
        int[][] wrong = {
            {0, 0, -1}, {0, 0, LEAST}, {-1, 0, 1}, {0, -1, 1}, {LEAST, 0, 1}, {0, LEAST, 1},
            {7, 0, 1}, {0, 3, 1}, {0, 0, 4}, {5, 0, 3}, {0, 1, 3}, {8, 0, 0}, {0, 4, 0},
            {-1, 0, 0}, {0, -1, 0}, {GREATEST, 0, 1}, {0, GREATEST, 1}, {0, 0, GREATEST},
            {1, 1, GREATEST}, {GREATEST, GREATEST, GREATEST},
        };
        for (int[] w : wrong) {
            beyond("move(0, " + w[0] + ", 2, " + w[1] + ", " + w[2] + ")",
                    x -> x.move(0, w[0], 2, w[1], w[2]));
        }
    }

    private static void images() {
        twins.refused("restore, no image", RefusalsTest::bare, Due.NONE, x -> x.restore());
        twins.refused("tell, a 25th", RefusalsTest::full, Due.FULL, x -> x.tell(24));
        for (int what : new int[] {LEAST, -1, 11, GREATEST}) {
            beyond("count(" + what + ")", x -> x.count(what));
        }
        for (int k : new int[] {LEAST, -1, 0, 7, GREATEST}) {
            beyond("told(" + k + ")", x -> x.told(k));
        }
    }
}
