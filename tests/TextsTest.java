/** Promises 12 to 14: the tape, texts, and what they give. */
public final class TextsTest {
    private static final Due due = new Due();

    public static void main(String[] args) {
        feeding();
        feedingErrors();
        values();
        names();
        faults();
        textErrors();
        untelling();
        heldWithin();
        manyTexts();
        due.end();
    }

    private static void feeding() {
        OldBronze x = new OldBronze();
        due.is("one byte of many", x.feed(0x1122334455667767L, 1), 1);
        due.is("the lowest", x.text(0), 1);
        due.is("the tape is empty", x.count(7), 0);
        due.is("lowest first", x.feed('1' | '2' << 8 | '3' << 16, 3), 3);
        due.is("eight more", x.feed(0x2b302b302b302b30L, 8), 11);
        due.is("1230+0+0+0+ ends too early", x.text(0), -21);
        x.feed(0x372b372b372b372bL, 8);
        due.is("begins with an operator", x.text(0), -10);
        x.feed(0x2b372b372b372b37L, 8);
        due.is("ends with one", x.text(0), -18);
        x.feed(-1L, 8);
        due.is("other bytes", x.text(0), -10);
        x.feed(0x8000000000000031L, 8);
        due.is("a byte 0", x.text(0), -11);
    }

    private static void feedingErrors() {
        OldBronze x = new OldBronze();
        due.is("0 bytes", x.feed(0, 0), Due.BEYOND);
        due.is("-1 bytes", x.feed(0, -1), Due.BEYOND);
        due.is("9 bytes", x.feed(0, 9), Due.BEYOND);
        for (int i = 1; i <= 7; i++) {
            due.is("8 bytes", x.feed(0x2b312b312b312b31L, 8), 8 * i);
        }
        due.is("5 are too many", x.feed(0, 5), Due.FULL);
        due.is("BEYOND ahead of FULL", x.feed(0, 9), Due.BEYOND);
        due.is("56", x.count(7), 56);
        due.is("4 are not", x.feed('1' | '+' << 8 | '1' << 16 | '+' << 24, 4), 60);
        due.is("1 is too many", x.feed('1', 1), Due.FULL);
        due.is("ends too early", x.text(1), -70);
        due.is("told BEYOND", x.told(1), 4);
        due.is("told FULL", x.told(4), 2);
    }

    /** What a TEXT gives, as a RING of a BELL of 50 grams, 20 tin in thousandths, m 3. */
    private static void value(String text, int want) {
        OldBronze x = new OldBronze();
        x.thing(103, 50);
        x.set(0, 3, 1);
        due.is("text " + text, Due.text(x, text, 0), 1);
        due.is("value of " + text, x.thingIs(0, 10), want);
    }

    private static void values() {
        value("7", 7);
        value("0007", 7);
        value("9999", 9999);
        value("g", 50);
        value("s", 20);
        value("m", 3);
        value("1+2*3", 7);
        value("(1+2)*3", 9);
        value("9-3-2", 4);
        value("100/7/2", 7);
        value("100%7*3", 6);
        value("7/0", 0);
        value("7%0", 0);
        value("(0-7)/2+10", 7);
        value("(0-7)%2+10", 9);
        value("1<2", 1);
        value("2<1", 0);
        value("2<2", 0);
        value("2=2", 1);
        value("2=3", 0);
        value("3>2", 1);
        value("2>2", 0);
        value("(1<2)<3", 1);
        value("5>4", 1);
        value("2&3", 1);
        value("2&0", 0);
        value("0|4", 1);
        value("0|0", 0);
        value("1|0&0", 1);
        value("(1|0)&0", 0);
        value("0&1|1", 1);
        value("1+1=2", 1);
        value("1&0=0", 1);
        value("2|0+5", 1);
        value("!0", 1);
        value("!7", 0);
        value("!!7", 1);
        value("!0+5", 6);
        value("!(0+5)", 0);
        value("!g*5+2", 2);
        value("5-!m-!0", 4);
        value("!!!!!0", 1);
        value("(((((m)))))", 3);
        value("(!(!(0)))", 0);
        value("9999*9999*22<0", 1);
        value("9999*9999*43>0", 1);
        value("(0-9999*9999*22)/0", 0);
        value("!(g>40)|s%7*m-!0/5", 1);
        value("g+s+m+g+s+m+g+s+m+g+s+m+g+s+m+g+s+m+g+s+m+g+s+m+g+s+m-1", 656);
    }

    private static void names() {
        OldBronze x = new OldBronze();
        x.thing(107, 3000);
        x.set(0, 3, 1000);
        Due.text(x, "s", 0);
        due.is("tin in thousandths, cut", x.thingIs(0, 10), 333);
        x.thing(104, 0);
        due.is("0 of 0 grams", x.thingIs(1, 10), 0);
        x.thing(405, 10);
        Due.text(x, "g*m", 0);
        due.is("chime: as bell, and twice m", x.thingIs(2, 10), 60);
        x.thing(5, 10);
        due.is("a thing has no ring", x.thingIs(3, 10), 1000);
        x.claim(0, 900);
        x.claim(0, 80);
        Due.text(x, "c*10/n-g", 1);
        due.is("c, g, n", x.claimIs(0, 2), 900);
        due.is("c, g, n held", x.claimIs(1, 2), 0);
        Due.text(x, "n", 1);
        due.is("n", x.claimIs(1, 2), 2);
    }

    private static void fault(String text, int use, int place) {
        OldBronze x = new OldBronze();
        due.is("fault of " + text, Due.text(x, text, use), -10 - place);
        due.is("the tape is empty", x.count(7), 0);
        due.is("no error is told", x.told(1) + x.told(2) + x.told(3) + x.told(4), 0);
    }

    private static void faults() {
        fault("", 0, 0);
        fault("c", 0, 0);
        fault("s", 1, 0);
        fault("m", 1, 0);
        fault("g+n", 0, 2);
        fault("G", 0, 0);
        fault(" 1", 0, 0);
        fault("1 ", 0, 1);
        fault("12345", 0, 4);
        fault("gg", 0, 1);
        fault("1g", 0, 1);
        fault("g1", 0, 1);
        fault("g(", 0, 1);
        fault("g!", 0, 1);
        fault("1<2<3", 0, 3);
        fault("1=2>3", 0, 3);
        fault("1<2+3*4&5=6=7", 0, 11);
        fault("(1<2<3)", 0, 4);
        fault("(1", 0, 2);
        fault("(1+", 0, 3);
        fault("1)", 0, 1);
        fault("(1))", 0, 3);
        fault("()", 0, 1);
        fault("!", 0, 1);
        fault("!)", 0, 1);
        fault("+1", 0, 0);
        fault("1++2", 0, 2);
        fault("1&&2", 0, 2);
        fault("-1", 0, 0);
        fault("1*-1", 0, 2);
        fault("!!!!!!g", 0, 5);
        fault("((((((g", 0, 5);
        fault("!(!(!(g", 0, 5);
        fault("(((((!g", 0, 5);
        fault("!!!!!(g", 0, 5);
        fault("(((((g))))", 0, 10);
        fault("!!!!!g+!!!!!g+((((!g))))+((((((", 0, 30);
        fault("g>s=m", 0, 3);
        fault("c|!n&(g", 1, 7);
        fault("g^s", 0, 1);
        fault("g=", 0, 2);
    }

    private static void textErrors() {
        OldBronze x = new OldBronze();
        x.thing(100, 1000);
        Due.text(x, "5", 0);
        Due.feed(x, "6");
        due.is("use 2", x.text(2), Due.BEYOND);
        due.is("use -1", x.text(-1), Due.BEYOND);
        due.is("the tape stays", x.count(7), 1);
        due.is("still the one ahead", x.thingIs(0, 10), 5);
        due.is("a new one", x.text(0), 1);
        due.is("in its place", x.thingIs(0, 10), 6);
        due.is("a fault", Due.text(x, "7+", 0), -12);
        due.is("the one ahead stays", x.thingIs(0, 10), 6);
        due.is("no tape", x.text(0), -10);
        due.is("the one ahead stays, too", x.thingIs(0, 10), 6);
        due.is("the other one isn't told", x.untell(1), 0);
    }

    private static void untelling() {
        OldBronze x = new OldBronze();
        x.thing(109, 1000);
        Due.text(x, "5", 0);
        due.is("use 2", x.untell(2), Due.BEYOND);
        due.is("use -1", x.untell(-1), Due.BEYOND);
        due.is("there is none", x.untell(1), 0);
        due.is("there was one", x.untell(0), 1);
        due.is("there is none now", x.untell(0), 0);
        due.is("without a text", x.thingIs(0, 10), 1009);
    }

    private static void manyTexts() {
        OldBronze x = new OldBronze();
        x.thing(100, 1000);
        for (int i = 0; i < 9; i++) {
            String text = "1+1+1+1+1+1+1+1+1+1+1+1+1+1+1+" + i;
            due.is("text " + i, Due.text(x, text, 0), 1);
            due.is("value " + i, x.thingIs(0, 10), 15 + i);
            due.is("a fault " + i, Due.text(x, "g+g+g+g+g+g+g+g+g+", 0), -28);
            due.is("value still " + i, x.thingIs(0, 10), 15 + i);
        }
    }

    private static void heldWithin() {
        OldBronze x = new OldBronze();
        x.thing(100, 1000);
        Due.text(x, "0-1", 0);
        due.is("held at 0", x.thingIs(0, 10), 0);
        Due.text(x, "9999+1", 0);
        due.is("held at 9999", x.thingIs(0, 10), 9999);
        Due.text(x, "9999*9999*50", 0);
        due.is("wraps", x.thingIs(0, 10), Math.max(0, Math.min(9999, 9999 * 9999 * 50)));
        x.claim(0, 40);
        Due.text(x, "c+1", 1);
        due.is("held at c", x.claimIs(0, 2), 40);
        Due.text(x, "c-41", 1);
        due.is("held at 0, too", x.claimIs(0, 2), 0);
        Due.text(x, "0", 1);
        due.is("0", x.claimIs(0, 2), 0);
    }
}
