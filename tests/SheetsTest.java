/** Promises 29 to 33: sheets, numbers, moves of them, papers and judgements from them. */
public final class SheetsTest {
    private static final Due due = new Due();

    public static void main(String[] args) {
        sheets();
        bits();
        putting();
        moving();
        movingErrors();
        papers();
        papersErrors();
        judging();
        judgingErrors();
        due.end();
    }

    private static void sheets() {
        OldBronze x = new OldBronze();
        due.is("sheet -1", x.sheet(-1, 8, 1), Due.BEYOND);
        due.is("sheet 4", x.sheet(4, 8, 1), Due.BEYOND);
        due.is("sheet 4 with n -1", x.sheet(4, 8, -1), Due.BEYOND);
        due.is("1 bit", x.sheet(0, 1, 1), Due.BEYOND);
        due.is("64 bits", x.sheet(0, 64, 1), Due.BEYOND);
        due.is("-8 bits", x.sheet(0, -8, 1), Due.BEYOND);
        due.is("9 bits with n -1", x.sheet(0, 9, -1), Due.BEYOND);
        due.is("n -1", x.sheet(0, 8, -1), Due.STATE);
        due.is("n 25", x.sheet(0, 8, 25), Due.BEYOND);
        due.is("missing all the while", x.put(0, 0, 1), Due.NONE);
        due.is("n 24", x.sheet(3, 8, 24), 1);
        due.is("the last one", x.put(3, 23, 1), 1);
        due.is("beyond it", x.put(3, 24, 1), Due.BEYOND);
        due.is("n 0", x.sheet(3, 16, 0), 1);
        due.is("not missing", x.put(3, 0, 1), Due.BEYOND);
        due.is("missing, n -1", x.sheet(3, 0, -1), 1);
        due.is("it is missing", x.put(3, 0, 1), Due.NONE);
        due.is("missing, n 99", x.sheet(2, 0, 99), 1);
        due.is("it is missing, too", x.put(2, 0, 1), Due.NONE);
    }

    /** What number i of a SHEET is, told by judge(), with THINGS that have so many GRAMS. */
    private static boolean is(OldBronze x, int sheet, int thing) {
        return x.judge(sheet, 0) != thing;
    }

    private static void bits() {
        int[] bits = {8, 16, 32};
        int[] least = {-128, -32768, Integer.MIN_VALUE};
        int[] v = {0x7001017f, 0x70017fff, 9999999};
        int[] grams = {127, 32767, 9999999};
        for (int i = 0; i < 3; i++) {
            OldBronze x = new OldBronze();
            x.thing(0, grams[i]);
            x.sheet(0, bits[i], 1);
            due.is("0 at first", is(x, 0, 0) ? 1 : 0, 0);
            x.put(0, 0, v[i]);
            due.is("the lowest bits " + bits[i], is(x, 0, 0) ? 1 : 0, 1);
            x.put(0, 0, v[i] + 1);
            due.is("with a sign " + bits[i], is(x, 0, 0) ? 1 : 0, 0);
            x.put(0, 0, least[i]);
            due.is("the least " + bits[i], is(x, 0, 0) ? 1 : 0, 0);
            x.put(0, 0, v[i]);
            x.sheet(0, bits[i], 1);
            due.is("0 again " + bits[i], is(x, 0, 0) ? 1 : 0, 0);
        }
        OldBronze y = new OldBronze();
        y.thing(0, 200);
        y.sheet(0, 8, 1);
        y.put(0, 0, 200);
        due.is("200 is below 0 in 8 bits", is(y, 0, 0) ? 1 : 0, 0);
        y.sheet(0, 16, 1);
        y.put(0, 0, 65536 + 200);
        due.is("200 in 16 bits", is(y, 0, 0) ? 1 : 0, 1);
    }

    private static void putting() {
        OldBronze x = new OldBronze();
        x.sheet(1, 32, 3);
        due.is("sheet -1", x.put(-1, 0, 0), Due.BEYOND);
        due.is("sheet 4", x.put(4, 0, 0), Due.BEYOND);
        due.is("NONE ahead of BEYOND of i", x.put(0, -1, 0), Due.NONE);
        due.is("number -1", x.put(1, -1, 0), Due.BEYOND);
        due.is("number 3", x.put(1, 3, 0), Due.BEYOND);
        due.is("number 2", x.put(1, 2, 0), 1);
    }

    /** A SHEET of 32 bits with the numbers from 1 on, and THINGS to judge it by. */
    private static OldBronze row(int n) {
        OldBronze x = new OldBronze();
        x.sheet(0, 32, n);
        x.sheet(1, 32, n);
        for (int i = 0; i < n; i++) {
            x.put(0, i, i + 1);
        }
        return x;
    }

    private static void numbers(OldBronze x, int sheet, int... want) {
        for (int grams : want) {
            x.thing(0, grams);
        }
        due.is("the numbers of a sheet", x.judge(sheet, 0), want.length);
    }

    private static void moving() {
        OldBronze x = row(5);
        due.is("to another one", x.move(0, 1, 1, 2, 3), 3);
        numbers(x, 1, 0, 0, 2, 3, 4);
        OldBronze y = row(6);
        due.is("forth", y.move(0, 0, 0, 2, 4), 4);
        numbers(y, 0, 1, 2, 1, 2, 3, 4);
        OldBronze z = row(6);
        due.is("back", z.move(0, 2, 0, 0, 4), 4);
        numbers(z, 0, 3, 4, 5, 6, 5, 6);
        OldBronze w = row(3);
        due.is("all onto itself", w.move(0, 0, 0, 0, 3), 3);
        due.is("none", w.move(0, 3, 1, 3, 0), 0);
        numbers(w, 0, 1, 2, 3);
    }

    private static void movingErrors() {
        OldBronze x = row(4);
        x.sheet(2, 16, 4);
        due.is("sheet -1", x.move(-1, 0, 1, 0, 1), Due.BEYOND);
        due.is("sheet 4", x.move(4, 0, 1, 0, 1), Due.BEYOND);
        due.is("other -1", x.move(0, 0, -1, 0, 1), Due.BEYOND);
        due.is("other 4", x.move(3, 0, 4, 0, 1), Due.BEYOND);
        due.is("missing", x.move(3, 0, 0, 0, 1), Due.NONE);
        due.is("other missing", x.move(0, -1, 3, 0, 1), Due.NONE);
        due.is("both missing", x.move(3, 0, 3, 0, 0), Due.NONE);
        due.is("unlike", x.move(0, 0, 2, 0, 1), Due.KIND);
        due.is("unlike ahead of BEYOND", x.move(2, -1, 0, 9, -1), Due.KIND);
        due.is("n -1", x.move(0, 0, 1, 0, -1), Due.BEYOND);
        due.is("i -1", x.move(0, -1, 1, 0, 1), Due.BEYOND);
        due.is("j -1", x.move(0, 0, 1, -1, 1), Due.BEYOND);
        due.is("i and n beyond", x.move(0, 2, 1, 0, 3), Due.BEYOND);
        due.is("j and n beyond", x.move(0, 0, 1, 2, 3), Due.BEYOND);
        due.is("n beyond", x.move(0, 0, 1, 0, 5), Due.BEYOND);
        due.is("n 0, i beyond", x.move(0, 5, 1, 0, 0), Due.BEYOND);
        due.is("n 0, j beyond", x.move(0, 0, 1, 5, 0), Due.BEYOND);
        due.is("n 0, i -1", x.move(0, -1, 1, 0, 0), Due.BEYOND);
        due.is("n 0 at the ends", x.move(0, 4, 1, 4, 0), 0);
        due.is("great numbers", x.move(0, Integer.MAX_VALUE, 1, 1, Integer.MAX_VALUE), Due.BEYOND);
        due.is("great numbers, too", x.move(0, 1, 1, Integer.MAX_VALUE, 2), Due.BEYOND);
        due.is("great n", x.move(0, 1, 1, 1, Integer.MAX_VALUE), Due.BEYOND);
        numbers(x, 1, 0, 0, 0, 0);
    }

    private static void fill(OldBronze x, int bits, int... numbers) {
        x.sheet(0, bits, numbers.length);
        for (int i = 0; i < numbers.length; i++) {
            x.put(0, i, numbers[i]);
        }
    }

    private static void papers() {
        OldBronze x = new OldBronze();
        for (int i = 0; i < 4; i++) {
            x.thing(0, 800);
        }
        fill(x, 8, 0, 1, 8, 1, 2, 4, 3, 3, 1, 0, 1, 1);
        due.is("up to one that is refused", x.papers(0), 2);
        due.is("no ERROR is told", x.told(1), 0);
        due.is("they came", x.by(3, 2, 2), 800 + 800);
        fill(x, 32, 0, 1, 8, 1, 2);
        due.is("up to one that isn't whole", x.papers(0), 1);
        due.is("three", x.count(3), 3);
        fill(x, 16);
        due.is("no numbers", x.papers(0), 0);
        fill(x, 16, 0, 1, 9);
        due.is("none came", x.papers(0), 0);
        fill(x, 16, 0, 1, 1, 0, 2, 2, 0, 3, 3, 1, 2, 4);
        due.is("up to six", x.papers(0), 3);
        due.is("six", x.count(3), 6);
        due.is("none more", x.papers(0), 0);
        due.is("no FULL is told", x.told(4), 0);
        due.is("the sheet stays", x.put(0, 11, 1), 1);
        x.forget(0);
        fill(x, 32, 3, 0, 65536 + 1);
        due.is("eighths of 32 bits", x.papers(0), 0);
        fill(x, 16, 3, 0, 65536 + 1);
        due.is("eighths of 16 bits", x.papers(0), 1);
        due.is("it is", x.by(1, 3, 2), 700);
    }

    private static void papersErrors() {
        OldBronze x = new OldBronze();
        due.is("sheet -1", x.papers(-1), Due.BEYOND);
        due.is("sheet 4", x.papers(4), Due.BEYOND);
        due.is("missing", x.papers(3), Due.NONE);
    }

    private static void judging() {
        OldBronze x = new OldBronze();
        x.thing(0, 80);
        x.thing(0, 40);
        x.thing(0, 0);
        x.paper(0, 1, 4);
        fill(x, 8, 80, 40, 0);
        due.is("all are so", x.judge(0, 0), 3);
        due.is("the first isn't", x.judge(0, 1), 0);
        fill(x, 8, 40, 80, 1);
        due.is("the last isn't", x.judge(0, 1), 2);
        fill(x, 8, 40, 80);
        due.is("the last is without a number", x.judge(0, 1), 2);
        fill(x, 8, 40, 80, 0, 5);
        due.is("one more number", x.judge(0, 1), 3);
        fill(x, 8);
        due.is("no numbers", x.judge(0, 0), 0);
        OldBronze y = new OldBronze();
        fill(y, 8);
        due.is("no things", y.judge(0, 0), 0);
        fill(y, 8, 7);
        due.is("no things, too", y.judge(0, 0), 0);
    }

    private static void judgingErrors() {
        OldBronze x = new OldBronze();
        x.thing(0, 80);
        x.thing(0, 80);
        x.paper(0, 1, 8);
        due.is("sheet -1", x.judge(-1, 0), Due.BEYOND);
        due.is("sheet 4", x.judge(4, 0), Due.BEYOND);
        due.is("BEYOND ahead of NONE", x.judge(0, 2), Due.BEYOND);
        due.is("history -1", x.judge(0, -1), Due.BEYOND);
        due.is("missing", x.judge(0, 1), Due.NONE);
    }
}
