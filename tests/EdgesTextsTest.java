/** Terms 2 and promises 12 to 14: the sentences that name a bound, each with a test of its own. */
public final class EdgesTextsTest {
    private static final Due due = new Due();

    public static void main(String[] args) {
        sixtyBytes();
        bytesOfAWord();
        theLowestFirst();
        numbersOfDigits();
        namesOfTheUse();
        bytesThatNoTextHas();
        noBlanks();
        fiveOpenAtOnce();
        sixthOpenIsAFault();
        oneComparison();
        manyOfTheOthers();
        bindings();
        fromLeftToRight();
        intsWrap();
        quotientsAreCut();
        byZeroIsZero();
        truthIsOneOrZero();
        allIsWorkedOut();
        faultAtEachPlace();
        endsTooEarly();
        theWholeTapeIsRead();
        ringsAreHeld();
        tinInThousandths();
        ringsWithoutAText();
        countsAreHeld();
        countsWithoutAText();
        countsOfHowManyClaim();
        aTextInPlaceOfOneAhead();
        aFaultLeavesTheOneAhead();
        beyondLeavesTheTape();
        usesByThemselves();
        untellTwice();
        due.end();
    }

    // "THE TAPE (bytes, at most 60)"; feed: "FULL."
    private static void sixtyBytes() {
        for (int ahead = 51; ahead <= 60; ahead++) {
            for (int n = 1; n <= 8; n++) {
                OldBronze x = new OldBronze();
                for (int i = 0; i < ahead; i++) {
                    x.feed('!', 1);
                }
                boolean isFull = ahead + n > 60;
                due.is(n + " to " + ahead, x.feed(-1L, n), isFull ? Due.FULL : ahead + n);
                due.is("on the tape", x.count(7), isFull ? ahead : ahead + n);
            }
        }
    }

    // feed: "The n lowest bytes (1 .. 8) of a word".
    private static void bytesOfAWord() {
        OldBronze x = new OldBronze();
        due.is("0", x.feed(0L, 0), Due.BEYOND);
        due.is("9", x.feed(0L, 9), Due.BEYOND);
        due.is("-1", x.feed(0L, -1), Due.BEYOND);
        due.is("1", x.feed(0L, 1), 1);
        due.is("8", x.feed(0L, 8), 9);
        x.untell(0);
        x.text(0);
        due.is("the others don't come", x.feed(-256L | '5', 1), 1);
        due.is("5", x.text(0), 1);
        x.thing(100, 1);
        due.is("5 rings", x.thingIs(0, 10), 5);
        x.feed(0x8030303030303031L, 7);
        due.is("seven of eight: 1000000", x.text(0), -14);
        x.feed((long) '+' << 56 | 0x30303030303031L, 8);
        due.is("eight of eight", x.text(0), -14);
    }

    // "the lowest first".
    private static void theLowestFirst() {
        OldBronze x = new OldBronze();
        x.thing(100, 1);
        x.feed('4' | '3' << 8, 2);
        x.feed('2' | '1' << 8, 2);
        x.text(0);
        due.is("4321", x.thingIs(0, 10), 4321);
        x.feed((long) '1' << 56 | (long) '+' << 48 | (long) '1' << 40 | (long) '+' << 32
                | '1' << 24 | '+' << 16 | '9' << 8 | '9', 8);
        x.text(0);
        due.is("99+1+1+1", x.thingIs(0, 10), 102);
    }

    /** What a TEXT gives, as a RING of a BELL of 50 grams, 20 tin in thousandths, m 3. */
    private static void value(String text, int want) {
        OldBronze x = new OldBronze();
        x.thing(103, 50);
        x.set(0, 3, 1);
        due.is("text " + text, Due.text(x, text, 0), 1);
        due.is("value of " + text, x.thingIs(0, 10), want);
        due.is("the tape behind " + text, x.count(7), 0);
    }

    private static void fault(String text, int place) {
        fault(text, 0, place);
    }

    private static void fault(String text, int use, int place) {
        OldBronze x = new OldBronze();
        due.is("fault of " + text, Due.text(x, text, use), -10 - place);
        due.is("the tape behind " + text, x.count(7), 0);
        for (int k = 1; k <= 6; k++) {
            due.is("no ERROR by " + text, x.told(k), 0);
        }
    }

    // "a NUMBER of 1 to 4 digits".
    private static void numbersOfDigits() {
        value("0", 0);
        value("9", 9);
        value("0000", 0);
        value("0042", 42);
        value("9999", 9999);
        fault("00000", 4);
        fault("12345", 4);
        fault("1+12345", 6);
        fault("(12345)", 5);
        fault("!12345", 5);
    }

    // "NAMES g .. s .. m"; "c .. g .. n".
    private static void namesOfTheUse() {
        String[] names = {"gsm", "cgn"};
        for (int use = 0; use < 2; use++) {
            for (char c = 'a'; c <= 'z'; c++) {
                OldBronze x = new OldBronze();
                x.feed(c, 1);
                due.is(c + " in use " + use, x.text(use),
                        names[use].indexOf(c) >= 0 ? 1 : -10);
            }
        }
        fault("gs", 1);
        fault("g+G", 2);
        fault("g1", 1);
        fault("1g", 1);
        fault("s", 1, 0);
        fault("g+m", 1, 2);
        fault("g+c", 0, 2);
        fault("g+n", 0, 2);
    }

    // "TEXTS are read from THE TAPE (bytes ..)": all 256 of them, first and behind a value.
    private static void bytesThatNoTextHas() {
        for (int b = 0; b < 256; b++) {
            OldBronze x = new OldBronze();
            x.feed(b, 1);
            boolean isValue = b >= '0' && b <= '9' || b == 'g' || b == 's' || b == 'm';
            boolean isOpen = b == '!' || b == '(';
            due.is("byte " + b, x.text(0), isValue ? 1 : isOpen ? -11 : -10);
            x.feed(b << 8 | '7', 2);
            boolean isDigit = b >= '0' && b <= '9';
            boolean isJoin = b != 0 && "|&<=>+-*/%".indexOf(b) >= 0;
            due.is("7 and byte " + b, x.text(0), isDigit ? 1 : isJoin ? -12 : -11);
        }
    }

    // "No blanks."
    private static void noBlanks() {
        fault(" 1", 0);
        fault("1 ", 1);
        fault("1 +1", 1);
        fault("1+ 1", 2);
        fault("( 1)", 1);
        fault("! 1", 1);
        fault("1\t", 1);
        fault("1\n", 1);
    }

    // "At most 5 of ! and ( are open at once."
    private static void fiveOpenAtOnce() {
        value("!!!!!7", 0);
        value("(((((7)))))", 7);
        value("!(!(!7))", 0);
        value("(!(!(7)))", 1);
        value("((((!7))))", 0);
        value("!!!!!7+!!!!!0", 1);
        value("(((((7)))))+(((((8)))))", 15);
        value("((((!7+!0))))", 1);
        value("!!!!(7)", 1);
        value("((((7)+(8))))", 15);
    }

    // The same: a sixth is a FAULT where it stands.
    private static void sixthOpenIsAFault() {
        fault("!!!!!!7", 5);
        fault("((((((7))))))", 5);
        fault("!(!(!(7)))", 5);
        fault("(((((!7)))))", 5);
        fault("!!!!!(7)", 5);
        fault("(((((7+!7)))))", 7);
        fault("(((((7)+(8)+((9))))))", 13);
        fault("!!!!!7+!!!!!!7", 12);
        fault("((((!7+!(7)))))", 8);
    }

    // "B: S, or S < S, S = S, S > S": one of them.
    private static void oneComparison() {
        for (char a : new char[] {'<', '=', '>'}) {
            for (char b : new char[] {'<', '=', '>'}) {
                fault("1" + a + "2" + b + "3", 3);
                fault("(1" + a + "2" + b + "3)", 4);
                fault("0|1" + a + "2" + b + "3", 5);
                value("(1" + a + "1)" + b + "2", b == '<' ? 1 : 0);
            }
        }
        value("1<2&2<3", 1);
        value("1>2|2>3", 0);
        value("1=1&2=2&3=3", 1);
        value("1<(2<3)", 0);
        value("!(1<2)<3", 1);
        fault("1<<2", 2);
        fault("1<=2", 2);
    }

    // "A { | A }", "B { & B }", "P { + P, - P }", "Q { * Q, / Q, % Q }": none, or many.
    private static void manyOfTheOthers() {
        StringBuilder longest = new StringBuilder();
        for (char join : new char[] {'|', '&', '+', '-', '*', '/', '%'}) {
            longest.setLength(0);
            for (int i = 0; i < 29; i++) {
                longest.append('1').append(join);
            }
            longest.append("1");
            int v = join == '+' ? 30 : join == '-' || join == '%' ? 0 : 1;
            value(longest.toString(), v);
        }
    }

    // T of A of B of S of P of Q: what binds more, what less.
    private static void bindings() {
        value("1|0&0", 1);
        value("0&0|1", 1);
        value("1&2<1", 0);
        value("2<1&0", 0);
        value("1<0+2", 1);
        value("2+0<1", 0);
        value("2+3*4", 14);
        value("2*3+4", 10);
        value("9-4/2", 7);
        value("9-5%3", 7);
        value("!2+5", 5);
        value("!2*5", 0);
        value("!0<1", 0);
        value("!0|0", 1);
        value("!!2", 1);
    }

    // { .. }: the left ones first.
    private static void fromLeftToRight() {
        value("9-4-3", 2);
        value("9-4+3", 8);
        value("80/4/2", 10);
        value("80/4*2", 40);
        value("80%7%2", 1);
        value("7*5%4", 3);
        value("7%4*5", 15);
    }

    // "Ints that wrap".
    private static void intsWrap() {
        // 2147483648 is -2147483648
        value("8192*8192*32<0", 1);
        value("8192*8192*32-1>0", 1);
        value("8192*8192*32-1+1<0", 1);
        value("8192*8192*64", 0);
        value("8192*8192*32/(0-1)<0", 1);
        value("8192*8192*32%(0-1)", 0);
        value("8192*8192*32*(0-1)<0", 1);
        value("0-8192*8192*32<0", 1);
    }

    // "/ cut, % the rest that it leaves".
    private static void quotientsAreCut() {
        value("7/2", 3);
        value("(0-7)/2+10", 7);
        value("7/(0-2)+10", 7);
        value("(0-7)/(0-2)", 3);
        value("7%2", 1);
        value("(0-7)%2+10", 9);
        value("7%(0-2)", 1);
        value("(0-7)%(0-2)+10", 9);
        value("1/2", 0);
        value("(0-1)/2", 0);
    }

    // "both by 0 are 0".
    private static void byZeroIsZero() {
        value("7/0", 0);
        value("7%0", 0);
        value("0/0", 0);
        value("0%0", 0);
        value("7/(g-g)+5", 5);
        value("7%(g-50)+5", 5);
        value("8192*8192*32/0+5", 5);
        value("8192*8192*32%0+5", 5);
    }

    // "| & < = > ! are 1 or 0, what is not 0 being true".
    private static void truthIsOneOrZero() {
        value("5|7", 1);
        value("5|0", 1);
        value("0|7", 1);
        value("0|0", 0);
        value("(0-5)|0", 1);
        value("5&7", 1);
        value("4&3", 1);
        value("5&0", 0);
        value("0&7", 0);
        value("(0-5)&(0-1)", 1);
        value("!5", 0);
        value("!(0-5)", 0);
        value("!0", 1);
        value("3<4", 1);
        value("4<4", 0);
        value("5<4", 0);
        value("4=4", 1);
        value("4=5", 0);
        value("3>4", 0);
        value("4>4", 0);
        value("5>4", 1);
        value("(0-1)<0", 1);
        value("(0-1)>0", 0);
        value("8192*8192*32<(8192*8192*32-1)", 1);
    }

    // "all is worked out".
    private static void allIsWorkedOut() {
        value("0&7/0", 0);
        value("1|7/0", 1);
        value("1|7%0&1", 1);
        value("0&(5|7/0)|m", 1);
    }

    // "FAULT: the place of the first byte with which no TEXT goes on".
    private static void faultAtEachPlace() {
        fault("+", 0);
        fault(")", 0);
        fault("1)", 1);
        fault("1(", 1);
        fault("1!", 1);
        fault("g(1)", 1);
        fault("(1)(2)", 3);
        fault("(1)2", 3);
        fault("(1)g", 3);
        fault("()", 1);
        fault("(1+)", 3);
        fault("1+-1", 2);
        fault("1**1", 2);
        fault("!)", 1);
        fault("!+1", 1);
        fault("(1))", 3);
        fault("(1|2&3<4+5*6)7", 13);
        fault("1?", 1);
        fault("1+2+3+4+5+6+7+8+9+1+2+3+4+5+6+7+8+9+1+2+3+4+5+6+7+8+9+1+2+)", 58);
        fault("1+2+3+4+5+6+7+8+9+1+2+3+4+5+6+7+8+9+1+2+3+4+5+6+7+8+9+1+2)3", 57);
        fault("1+2+3+4+5+6+7+8+9+1+2+3+4+5+6+7+8+9+1+2+3+4+5+6+7+8+9+1+2+3)", 59);
    }

    // "how many there are, if it ends too early".
    private static void endsTooEarly() {
        fault("", 0);
        fault("!", 1);
        fault("(", 1);
        fault("1+", 2);
        fault("1<", 2);
        fault("(1", 2);
        fault("(1+1", 4);
        fault("(((((1))))", 10);
        fault("!!!!!", 5);
        fault("(((((", 5);
        fault("1|2&3<4+5*", 10);
        fault("1+2+3+4+5+6+7+8+9+1+2+3+4+5+6+7+8+9+1+2+3+4+5+6+7+8+9+1+2+", 58);
        fault("1+2+3+4+5+6+7+8+9+1+2+3+4+5+6+7+8+9+1+2+3+4+5+6+7+8+9+1+22+", 59);
        fault("1+2+3+4+5+6+7+8+9+1+2+3+4+5+6+7+8+9+1+2+3+4+5+6+7+8+9+1+222+", 60);
        fault("(1+2+3+4+5+6+7+8+9+1+2+3+4+5+6+7+8+9+1+2+3+4+5+6+7+8+9+1+2+3", 60);
    }

    // A TEXT of all the 60 bytes.
    private static void theWholeTapeIsRead() {
        value("1+2+3+4+5+6+7+8+9+1+2+3+4+5+6+7+8+9+1+2+3+4+5+6+7+8+9+1+2+33", 171);
        value("1+1+1+1+1+1+1+1+1+1+1+1+1+1+1+1+1+1+1+1+1+1+1+1+(((((12)))))", 36);
        value("!!!!!0+!!!!!0+!!!!!0+!!!!!0+!!!!!0+!!!!!0+!!!!!0+!!!!!0+9999", 9999);
    }

    // RINGS: "held within 0 .. 9999".
    private static void ringsAreHeld() {
        value("0-1", 0);
        value("0-9999*9999", 0);
        value("8192*8192*32", 0);
        value("0", 0);
        value("9998+1", 9999);
        value("9999+1", 9999);
        value("8192*8192*32-1", 9999);
        OldBronze x = new OldBronze();
        x.thing(499, 1);
        Due.text(x, "9999*2", 0);
        due.is("a chime is above what is held", x.thingIs(0, 10), 9999 + 198);
    }

    // "s tin in thousandths of GRAMS (cut; 0 of 0 GRAMS)".
    private static void tinInThousandths() {
        int[][] tins = {{0, 0, 0}, {1, 1, 1000}, {3, 1, 333}, {3, 2, 666}, {1001, 1, 0},
            {1000, 1, 1}, {9999999, 9999998, 999}, {9999999, 9999999, 1000}, {7, 0, 0}};
        for (int[] tin : tins) {
            OldBronze x = new OldBronze();
            x.thing(100, tin[0]);
            x.set(0, 3, tin[1]);
            Due.text(x, "s", 0);
            due.is(tin[1] + " of " + tin[0], x.thingIs(0, 10), tin[2]);
        }
    }

    // "without a TEXT 1000 - s + m".
    private static void ringsWithoutAText() {
        OldBronze x = new OldBronze();
        x.thing(199, 10);
        x.thing(100, 10);
        x.set(1, 3, 10);
        due.is("most", x.thingIs(0, 10), 1099);
        due.is("least", x.thingIs(1, 10), 0);
        Due.text(x, "7", 0);
        due.is("with one", x.thingIs(0, 10), 7);
        x.untell(0);
        due.is("without it again", x.thingIs(0, 10), 1099);
    }

    /** What a CLAIM of 40 of a THING with 50 grams counts; another one claims it, too. */
    private static void counts(String text, int want) {
        OldBronze x = new OldBronze();
        x.thing(0, 50);
        x.claim(0, 40);
        x.claim(0, 1);
        due.is("text " + text, Due.text(x, text, 1), 1);
        due.is(text + " counts", x.claimIs(0, 2), want);
    }

    // COUNTS: "held within 0 .. c".
    private static void countsAreHeld() {
        counts("0-1", 0);
        counts("8192*8192*32", 0);
        counts("0", 0);
        counts("1", 1);
        counts("c-1", 39);
        counts("c", 40);
        counts("c+1", 40);
        counts("8192*8192*32-1", 40);
        counts("g", 40);
        counts("g-11", 39);
        counts("n", 2);
    }

    // "without c".
    private static void countsWithoutAText() {
        OldBronze x = new OldBronze();
        x.thing(0, 0);
        x.claim(0, 1);
        x.claim(0, 99999);
        due.is("least", x.claimIs(0, 2), 1);
        due.is("greatest", x.claimIs(1, 2), 99999);
        Due.text(x, "c", 0);
        due.is("no RINGS of c, so none", x.claimIs(1, 2), 99999);
    }

    // "n how many claim that THING": from one to all ten, others not.
    private static void countsOfHowManyClaim() {
        OldBronze x = new OldBronze();
        x.thing(0, 0);
        x.thing(0, 0);
        Due.text(x, "n", 1);
        x.claim(1, 99);
        for (int i = 1; i <= 9; i++) {
            x.claim(0, 99);
            due.is("so many", x.claimIs(i, 2), i);
            due.is("the first of them, too", x.claimIs(1, 2), i);
        }
        due.is("one of the other", x.claimIs(0, 2), 1);
    }

    // text: "in place of one ahead: 1".
    private static void aTextInPlaceOfOneAhead() {
        OldBronze x = new OldBronze();
        x.thing(100, 1000);
        due.is("a long one", Due.text(x, "1+1+1+1+1+1+1+1+1+1+1+1+1+1", 0), 1);
        due.is("a short one", Due.text(x, "5", 0), 1);
        due.is("nothing of the long one", x.thingIs(0, 10), 5);
        due.is("one was there", x.untell(0), 1);
        due.is("no more of them", x.untell(0), 0);
    }

    // "-10 less the FAULT (no ERROR; the one ahead stays; THE TAPE is empty, too)".
    private static void aFaultLeavesTheOneAhead() {
        OldBronze x = new OldBronze();
        x.thing(100, 1000);
        due.is("no one ahead", Due.text(x, "1+", 0), -12);
        due.is("without a text", x.thingIs(0, 10), 1000);
        Due.text(x, "1+2", 0);
        due.is("a fault", Due.text(x, "4+5+6+7!", 0), -17);
        due.is("the tape", x.count(7), 0);
        due.is("as ahead", x.thingIs(0, 10), 3);
        due.is("of an empty tape", x.text(0), -10);
        due.is("as ahead, too", x.thingIs(0, 10), 3);
        for (int k = 1; k <= 6; k++) {
            due.is("no ERROR", x.told(k), 0);
        }
    }

    // text: "BEYOND (THE TAPE stays)."
    private static void beyondLeavesTheTape() {
        OldBronze x = new OldBronze();
        x.thing(100, 1000);
        x.feed('4' | '2' << 8, 2);
        due.is("use -1", x.text(-1), Due.BEYOND);
        due.is("use 2", x.text(2), Due.BEYOND);
        due.is("the tape", x.count(7), 2);
        due.is("it is read", x.text(0), 1);
        due.is("as it was", x.thingIs(0, 10), 42);
    }

    // "of a USE (0, 1)": each has its own.
    private static void usesByThemselves() {
        OldBronze x = new OldBronze();
        x.thing(100, 1000);
        x.claim(0, 50);
        Due.text(x, "7", 1);
        due.is("no RINGS", x.thingIs(0, 10), 1000);
        due.is("COUNTS", x.claimIs(0, 2), 7);
        Due.text(x, "8", 0);
        due.is("RINGS", x.thingIs(0, 10), 8);
        due.is("COUNTS as ahead", x.claimIs(0, 2), 7);
        x.untell(1);
        due.is("RINGS as ahead", x.thingIs(0, 10), 8);
        due.is("no COUNTS", x.claimIs(0, 2), 50);
    }

    // untell: "1 if there was, else 0. BEYOND."
    private static void untellTwice() {
        OldBronze x = new OldBronze();
        for (int use = 0; use < 2; use++) {
            due.is("none at first", x.untell(use), 0);
            Due.text(x, "0", use);
            due.is("there was", x.untell(use), 1);
            due.is("none any more", x.untell(use), 0);
        }
        due.is("use -1", x.untell(-1), Due.BEYOND);
        due.is("use 2", x.untell(2), Due.BEYOND);
    }
}
