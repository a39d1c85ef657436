/** Counts the answers that are not the ones that are due. */
final class Due {
    static final int LOW = -1000000000;
    static final int BEYOND = LOW - 1;
    static final int NONE = LOW - 2;
    static final int STATE = LOW - 3;
    static final int FULL = LOW - 4;
    static final int KIND = LOW - 5;
    static final int PARTED = LOW - 6;

    private int asked;
    private int wrong;

    void is(String call, long got, long want) {
        asked++;
        if (got != want) {
            wrong++;
            System.out.println(call + " answered " + got + ", due is " + want);
        }
    }

    /** Feeds a text to THE TAPE, eight bytes at a time. */
    static void feed(OldBronze x, String text) {
        for (int i = 0; i < text.length(); i += 8) {
            int n = Math.min(8, text.length() - i);
            long word = 0;
            for (int k = n - 1; k >= 0; k--) {
                word = word << 8 | text.charAt(i + k) & 255;
            }
            x.feed(word, n);
        }
    }

    /** Feeds a text and reads it as the TEXT of a USE. */
    static int text(OldBronze x, String text, int use) {
        feed(x, text);
        return x.text(use);
    }

    void end() {
        System.out.println(asked + " asked, " + wrong + " wrong");
        if (wrong > 0 || asked == 0) {
            System.exit(1);
        }
    }
}
