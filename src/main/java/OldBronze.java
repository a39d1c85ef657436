import java.util.Arrays;

/** What the bell was before: bronze that goes from bell to gun to kettle to bell. */
public final class OldBronze {
    private static final int LOW = -1000000000;

    // ERRORS, as told() numbers them.
    private static final int BEYOND = 1;
    private static final int NONE = 2;
    private static final int STATE = 3;
    private static final int FULL = 4;
    private static final int UNLIKE = 5;
    private static final int PARTED = 6;

    // The numbers of a THING, as thingIs() numbers them.
    private static final int KIND = 0;
    private static final int M = 1;
    private static final int GRAMS = 2;
    private static final int TIN = 3;
    private static final int HOLDS = 6;
    private static final int NUMBERS = 10;
    private static final int TONE = 10;

    private static final int THINGS = 12;
    private static final int CRUCIBLE = THINGS;
    private static final int FIRSTS = 4;
    private static final int WHOLE = 1000000;
    private static final int MOST_GRAMS = 9999999;
    private static final int MOST_CLAIMED = 99999;
    private static final int MOST_TIN = 9999;
    private static final int MOST_LAW = 990;
    private static final int MOST_YEARS = 9999;
    private static final int YEARS_AT_ONCE = 60;
    private static final int MOST_SLIP = 99;
    private static final int MOST_OF = 3;

    private static final int KINDS = 7;
    private static final int BELL = 1;
    private static final int GUN = 2;
    private static final int POT = 3;
    private static final int CHIME = 4;
    private static final int HOWITZER = 5;
    private static final int SCRAP = 6;
    private static final int[] ABOVE = {0, 0, 0, 0, BELL, GUN, POT};

    private static final int TAPE = 60;
    private static final int MOST_OPEN = 5;
    private static final int MOST_DIGITS = 4;
    private static final int MOST_TOLD = 9999;
    private static final int USES = 2;
    private static final int USE_RINGS = 0;
    private static final int NAMES_OF_USE = 3;
    private static final int[] NAMES = {'g', 's', 'm', 'c', 'g', 'n'};

    private static final int CLAIMS = 10;
    private static final int LAWS = 3;
    private static final int EVEN = 0;
    private static final int AS_MUCH = 1;
    private static final int PAPERS = 6;
    private static final int HISTORIES = 64;
    private static final int WEIGHINGS = 8;
    private static final int WAITING = 24;

    private static final int VOICES = 4;
    private static final int RINGS = 0;
    private static final int WEIGHS = 1;
    private static final int MELTS = 2;
    private static final int PARTS = 3;
    private static final int TRACE = 30;
    private static final int DEEPEST = 40;
    // A row for each KIND, a column for each VOICE; 0: the KIND has no BODY of it.
    private static final int[] BODIES = {
        10, 11, 12, 13,
        20, 0, 0, 21,
        0, 30, 0, 0,
        0, 0, 40, 0,
        50, 0, 51, 0,
        0, 60, 0, 0,
        70, 71, 0, 0,
    };

    private static final int SHEETS = 4;
    private static final int SHEET_NUMBERS = 24;

    private final Forge now = new Forge();
    private final Forge kept = new Forge();
    private final Bronze ahead = new Bronze();
    private final Histories histories = new Histories();
    private final Reader reader = new Reader();
    private final Voices voices = new Voices();
    private final Sheet[] sheets = new Sheet[SHEETS];
    private final int[] refusals = new int[PARTED + 1];
    private int images;

    public OldBronze() {
        for (int i = 0; i < sheets.length; i++) {
            sheets[i] = new Sheet();
        }
    }

    // ---- things, casts

    public int thing(int km, int grams) {
        if (!isKindAndM(km) || !within(grams, 0, MOST_GRAMS)) {
            return refuse(BEYOND);
        }
        if (now.bronze.room() < 1) {
            return refuse(FULL);
        }
        return now.bronze.addFirst(km, grams);
    }

    public int thingIs(int thing, int what) {
        if (!now.bronze.has(thing) || !within(what, KIND, TONE)) {
            return refuse(BEYOND);
        }
        return now.numberOf(now.bronze, thing, what);
    }

    public int as(int thing, int kind) {
        if (!now.bronze.has(thing) || !within(kind, 0, KINDS - 1)) {
            return refuse(BEYOND);
        }
        if (!isUnder(now.bronze.number(thing, KIND), kind)) {
            return refuse(UNLIKE);
        }
        return now.bronze.number(thing, GRAMS);
    }

    public int set(int thing, int what, int v) {
        if (!now.bronze.has(thing) || !within(v, 0, now.bronze.mostSettable(thing, what))) {
            return refuse(BEYOND);
        }
        int was = now.bronze.number(thing, what);
        now.bronze.become(thing, what, v);
        return was;
    }

    public int melt(int thing, int eighths) {
        if (!now.bronze.has(thing) || !within(eighths, 1, 8)) {
            return refuse(BEYOND);
        }
        if (now.bronze.number(thing, GRAMS) == 0) {
            return refuse(STATE);
        }
        now.bronze.pour(thing, CRUCIBLE, eighths);
        return now.bronze.number(CRUCIBLE, GRAMS);
    }

    public int crucible(int what) {
        if (!within(what, GRAMS, NUMBERS - 1)) {
            return refuse(BEYOND);
        }
        return now.bronze.number(CRUCIBLE, what);
    }

    public int cast(int km, int tin, int law) {
        if (!isKindAndM(km) || !within(tin, 0, MOST_TIN)
                || !within(law, 0, MOST_LAW) || law % 10 != 0) {
            return refuse(BEYOND);
        }
        if (now.bronze.number(CRUCIBLE, GRAMS) == 0) {
            return refuse(STATE);
        }
        int burn = law / 100;
        int keep = law / 10 % 10;
        if (now.bronze.room() < (keep > 0 ? 2 : 1)) {
            return refuse(FULL);
        }
        now.bronze.addTin(tin);
        now.bronze.lose(CRUCIBLE, burn, 100);
        return now.bronze.addCast(km, keep);
    }

    public int years(int n) {
        if (!within(n, 1, YEARS_AT_ONCE)) {
            return refuse(BEYOND);
        }
        if (now.bronze.yearsSoFar() + n > MOST_YEARS) {
            return refuse(STATE);
        }
        now.bronze.passYears(n);
        return now.bronze.allGrams();
    }

    public int then(int n, int thing, int what) {
        if (!within(n, 0, YEARS_AT_ONCE) || !now.bronze.has(thing)
                || !within(what, KIND, TONE)) {
            return refuse(BEYOND);
        }
        ahead.copyFrom(now.bronze);
        ahead.passYears(n);
        return now.numberOf(ahead, thing, what);
    }

    public int seed(int v) {
        return now.bronze.reseed(v);
    }

    // ---- texts

    public int feed(long word, int n) {
        if (!within(n, 1, 8)) {
            return refuse(BEYOND);
        }
        if (now.tape.room() < n) {
            return refuse(FULL);
        }
        for (int i = 0; i < n; i++) {
            now.tape.append((int) (word >> 8 * i) & 255, 0, 0);
        }
        return now.tape.size();
    }

    public int text(int use) {
        if (!within(use, 0, USES - 1)) {
            return refuse(BEYOND);
        }
        int fault = reader.read(now.tape, use);
        now.tape.clear();
        if (fault >= 0) {
            return -10 - fault;
        }
        reader.writeTo(now.textOf(use));
        return 1;
    }

    public int untell(int use) {
        if (!within(use, 0, USES - 1)) {
            return refuse(BEYOND);
        }
        int was = now.textOf(use).size() > 0 ? 1 : 0;
        now.textOf(use).clear();
        return was;
    }

    // ---- claims

    public int claim(int thing, int grams) {
        if (!now.bronze.has(thing) || !within(grams, 1, MOST_CLAIMED)) {
            return refuse(BEYOND);
        }
        if (now.claims.room() < 1) {
            return refuse(FULL);
        }
        return now.claims.append(thing, grams, 0);
    }

    public int claimIs(int claim, int what) {
        if (!now.claims.has(claim) || !within(what, 0, 2)) {
            return refuse(BEYOND);
        }
        return what == 2 ? now.counted(claim) : now.claims.at(claim, what);
    }

    public int share(int claim, int law) {
        if (!now.claims.has(claim) || !within(law, 0, LAWS - 1)) {
            return refuse(BEYOND);
        }
        return now.shareOf(claim, law);
    }

    public int left(int thing, int law) {
        if (!now.bronze.has(thing) || !within(law, 0, LAWS - 1)) {
            return refuse(BEYOND);
        }
        return now.leftOf(thing, law);
    }

    // ---- lost papers, weighings

    public int paper(int from, int into, int eighths) {
        if (!isPaper(from, into, eighths)) {
            return refuse(BEYOND);
        }
        if (now.lostPapers.room() < 1) {
            return refuse(FULL);
        }
        return now.lostPapers.append(from, into, eighths);
    }

    public int weigh(int thing, int grams, int slip) {
        if (!now.bronze.has(thing) || !within(grams, 0, MOST_GRAMS)
                || !within(slip, 0, MOST_SLIP)) {
            return refuse(BEYOND);
        }
        if (now.weighings.room() < 1) {
            return refuse(FULL);
        }
        return now.weighings.append(thing, grams, slip);
    }

    public int forget(int what) {
        if (!within(what, 0, 1)) {
            return refuse(BEYOND);
        }
        Rows forgotten = what == 0 ? now.lostPapers : now.weighings;
        int were = forgotten.size();
        forgotten.clear();
        return were;
    }

    public int by(int history, int thing, int what) {
        if (!isHistory(history) || !now.bronze.has(thing)
                || !within(what, GRAMS, NUMBERS - 1)) {
            return refuse(BEYOND);
        }
        histories.follow(now, history);
        return histories.numberBehind(thing, what);
    }

    public int fits(int what) {
        if (!within(what, 0, 4)) {
            return refuse(BEYOND);
        }
        histories.find(now);
        int all = allPapers();
        if (histories.size() == 0 && (what == 1 || what == 4)) {
            return refuse(NONE);
        }
        switch (what) {
            case 0:
                return histories.size();
            case 1:
                return histories.fitting(0);
            case 2:
                return histories.inAll(all);
            case 3:
                return histories.inAny();
            default:
                return now.lostPapers.size() - histories.mostPapers();
        }
    }

    public int span(int thing, int first, int greatest) {
        if (!now.bronze.has(thing) || !within(first, 0, FIRSTS - 1) || !within(greatest, 0, 1)) {
            return refuse(BEYOND);
        }
        histories.find(now);
        if (histories.size() == 0) {
            return refuse(NONE);
        }
        return histories.outermost(now, thing, HOLDS + first, greatest == 1);
    }

    public int next() {
        histories.find(now);
        if (histories.size() == 0 || now.bronze.size() == 0) {
            return refuse(NONE);
        }
        return histories.bestParted(now.bronze.size());
    }

    public int most(int first, int n, int what) {
        if (!within(first, 0, FIRSTS - 1) || !within(n, 0, MOST_OF) || !within(what, 0, 1)) {
            return refuse(BEYOND);
        }
        int set = now.bronze.mostOf(HOLDS + first, n);
        return what == 0 ? set : Math.max(0, now.bronze.together(set, HOLDS + first));
    }

    // ---- voices, sheets, images, what is told

    public int voice(int thing, int voice, int x) {
        if (!now.bronze.has(thing) || !within(voice, 0, VOICES - 1)) {
            return refuse(BEYOND);
        }
        voices.begin(now.bronze.number(thing, KIND), thing, now.bronze.number(thing, M));
        int answer = voices.own(voice, x, 0);
        return voices.isParted() ? refuse(PARTED) : answer;
    }

    public int body(int i) {
        return voices.trace().has(i) ? voices.trace().at(i, 0) : refuse(NONE);
    }

    public int sheet(int sheet, int bits, int n) {
        Sheet made = sheetAt(sheet);
        if (made == null || bits != 0 && bits != 8 && bits != 16 && bits != 32) {
            return refuse(BEYOND);
        }
        if (bits != 0 && n < 0) {
            return refuse(STATE);
        }
        if (bits != 0 && n > SHEET_NUMBERS) {
            return refuse(BEYOND);
        }
        made.begin(bits, bits == 0 ? 0 : n);
        return 1;
    }

    public int put(int sheet, int i, int v) {
        Sheet into = sheetAt(sheet);
        if (into == null) {
            return refuse(BEYOND);
        }
        if (into.isMissing()) {
            return refuse(NONE);
        }
        if (!into.has(i)) {
            return refuse(BEYOND);
        }
        into.write(i, v);
        return 1;
    }

    public int move(int sheet, int i, int other, int j, int n) {
        Sheet from = sheetAt(sheet);
        Sheet into = sheetAt(other);
        if (from == null || into == null) {
            return refuse(BEYOND);
        }
        if (from.isMissing() || into.isMissing()) {
            return refuse(NONE);
        }
        if (!from.isLike(into)) {
            return refuse(UNLIKE);
        }
        if (!from.hasRange(i, n) || !into.hasRange(j, n)) {
            return refuse(BEYOND);
        }
        from.copyRange(i, into, j, n);
        return n;
    }

    public int papers(int sheet) {
        Sheet from = sheetAt(sheet);
        if (from == null) {
            return refuse(BEYOND);
        }
        if (from.isMissing()) {
            return refuse(NONE);
        }
        int came = 0;
        for (int i = 0; i + 2 < from.size(); i += 3) {
            if (!isPaper(from.at(i), from.at(i + 1), from.at(i + 2))
                    || now.lostPapers.room() < 1) {
                return came;
            }
            now.lostPapers.append(from.at(i), from.at(i + 1), from.at(i + 2));
            came++;
        }
        return came;
    }

    public int judge(int sheet, int history) {
        Sheet row = sheetAt(sheet);
        if (row == null || !isHistory(history)) {
            return refuse(BEYOND);
        }
        if (row.isMissing()) {
            return refuse(NONE);
        }
        histories.follow(now, history);
        int things = now.bronze.size();
        for (int i = 0; i < things; i++) {
            if (!row.has(i) || row.at(i) != histories.numberBehind(i, GRAMS)) {
                return i;
            }
        }
        return things;
    }

    public int image() {
        kept.copyFrom(now);
        images++;
        return images;
    }

    public int restore() {
        if (images == 0) {
            return refuse(NONE);
        }
        now.copyFrom(kept);
        return now.bronze.yearsSoFar();
    }

    public int tell(int v) {
        if (now.waiting.room() < 1) {
            return refuse(FULL);
        }
        now.waiting.append(v, 0, 0);
        return now.waiting.size();
    }

    public int check() {
        histories.find(now);
        int wrong = histories.firstUnlike(now.waiting);
        now.waiting.clear();
        return wrong + 1;
    }

    public int count(int what) {
        switch (what) {
            case 0:
                return now.bronze.size();
            case 1:
                return now.bronze.firstsThatCount();
            case 2:
                return now.claims.size();
            case 3:
                return now.lostPapers.size();
            case 4:
                return now.weighings.size();
            case 5:
                return now.bronze.allGrams();
            case 6:
                return now.bronze.yearsSoFar();
            case 7:
                return now.tape.size();
            case 8:
                return now.waiting.size();
            case 9:
                return voices.trace().size();
            case 10:
                return now.bronze.lastDraw();
            default:
                return refuse(BEYOND);
        }
    }

    public int told(int k) {
        return k >= BEYOND && k < refusals.length ? refusals[k] : refuse(BEYOND);
    }

    // ---- what the acts ask

    private int refuse(int k) {
        if (k >= 0 && k < refusals.length) {
            refusals[k]++;
        }
        return LOW - k;
    }

    private Sheet sheetAt(int sheet) {
        return sheet >= 0 && sheet < sheets.length ? sheets[sheet] : null;
    }

    private int allPapers() {
        return (1 << now.lostPapers.size()) - 1;
    }

    private boolean isHistory(int history) {
        return within(history, 0, allPapers());
    }

    private boolean isPaper(int from, int into, int eighths) {
        return now.bronze.has(from) && now.bronze.has(into) && from != into
                && within(eighths, 1, 8);
    }

    private static boolean isKindAndM(int km) {
        return within(km, 0, 100 * KINDS - 1);
    }

    private static boolean isUnder(int kind, int other) {
        int at = kind;
        for (int step = 0; step < KINDS && at != other && at != 0; step++) {
            at = above(at);
        }
        return at == other;
    }

    private static int above(int kind) {
        return kind >= 0 && kind < ABOVE.length ? ABOVE[kind] : 0;
    }

    private static boolean within(int v, int least, int greatest) {
        return v >= least && v <= greatest;
    }

    /** Cut toward 0; 0 by 0. */
    private static int quotient(long v, long by) {
        return by == 0 ? 0 : (int) (v / by);
    }

    /** A table of at most so many rows; a place outside it reads as 0 and takes nothing. */
    private static final class Rows {
        private final int width;
        private final int[] cells;
        private final int limit;
        private int size;

        Rows(int limit, int width) {
            this.limit = Math.max(0, limit);
            this.width = Math.max(1, width);
            this.cells = new int[Math.max(0, this.limit * this.width)];
        }

        int size() {
            return size;
        }

        int room() {
            return limit - size;
        }

        boolean has(int row) {
            return row >= 0 && row < size;
        }

        int at(int row, int column) {
            boolean isThere = row >= 0 && row < size && column >= 0 && column < width;
            int place = isThere ? row * width + column : -1;
            return place >= 0 && place < cells.length ? cells[place] : 0;
        }

        /** The new row's number; numbers beyond the width are left out. */
        int append(int a, int b, int c) {
            if (room() < 1) {
                return -1;
            }
            write(0, a);
            write(1, b);
            write(2, c);
            size++;
            return size - 1;
        }

        private void write(int column, int v) {
            int place = size * width + column;
            if (column < width && place >= 0 && place < cells.length) {
                cells[place] = v;
            }
        }

        void clear() {
            size = 0;
        }

        void copyFrom(Rows other) {
            if (other.cells.length != cells.length) {
                return;
            }
            System.arraycopy(other.cells, 0, cells, 0, cells.length);
            size = other.size;
        }
    }

    /** All THINGS, THE CRUCIBLE behind them, and the YEARS that go over them. */
    private static final class Bronze {
        private final int[] cells = new int[(THINGS + 1) * NUMBERS];
        private int size;
        private int firsts;
        private int years;
        private int z = 1;

        int size() {
            return size;
        }

        int room() {
            return THINGS - size;
        }

        boolean has(int thing) {
            return thing >= 0 && thing < size;
        }

        int firstsThatCount() {
            return firsts;
        }

        int yearsSoFar() {
            return years;
        }

        int lastDraw() {
            return z;
        }

        int reseed(int v) {
            int was = z;
            z = v;
            return was;
        }

        int number(int one, int what) {
            int place = placeOf(one, what);
            return place >= 0 && place < cells.length ? cells[place] : 0;
        }

        void become(int one, int what, int v) {
            int place = placeOf(one, what);
            if (place >= 0 && place < cells.length) {
                cells[place] = v;
            }
        }

        /** -1: there is none such. */
        private static int placeOf(int one, int what) {
            boolean isThere = one >= 0 && one <= CRUCIBLE && what >= 0 && what < NUMBERS;
            return isThere ? one * NUMBERS + what : -1;
        }

        /** The greatest that a number may be set to; below 0 where it may not be set. */
        int mostSettable(int thing, int what) {
            if (what == KIND) {
                return KINDS - 1;
            }
            if (what == M) {
                return 99;
            }
            return within(what, TIN, HOLDS - 1) ? number(thing, GRAMS) : -1;
        }

        int allGrams() {
            int all = 0;
            for (int thing = 0; thing < size; thing++) {
                all += number(thing, GRAMS);
            }
            return all;
        }

        void copyFrom(Bronze other) {
            if (other.cells.length != cells.length) {
                return;
            }
            System.arraycopy(other.cells, 0, cells, 0, cells.length);
            size = other.size;
            firsts = other.firsts;
            years = other.years;
            z = other.z;
        }

        private int add(int km) {
            if (room() < 1) {
                return -1;
            }
            int thing = size;
            size++;
            fill(thing, 0);
            become(thing, KIND, km / 100);
            become(thing, M, km % 100);
            return thing;
        }

        private void fill(int one, int v) {
            for (int what = 0; what < NUMBERS; what++) {
                become(one, what, v);
            }
        }

        int addFirst(int km, int grams) {
            int thing = add(km);
            become(thing, GRAMS, grams);
            if (firsts < FIRSTS) {
                become(thing, HOLDS + firsts, WHOLE);
                firsts++;
            }
            return thing;
        }

        /** The MOVE of a part of one into another one. */
        void pour(int from, int into, int eighths) {
            int part = partOf(from, GRAMS, eighths, 8);
            int own = number(into, GRAMS);
            for (int what = HOLDS; what < NUMBERS; what++) {
                long brought = (long) part * number(from, what);
                long had = (long) own * number(into, what);
                become(into, what, quotient(brought + had, part + own));
            }
            int grams = Math.min(MOST_GRAMS, own + part);
            become(into, GRAMS, grams);
            for (int what = TIN; what < HOLDS; what++) {
                int both = number(into, what) + partOf(from, what, eighths, 8);
                become(into, what, Math.min(grams, both));
            }
            lose(from, eighths, 8);
        }

        private int partOf(int one, int what, int part, int whole) {
            return quotient((long) number(one, what) * part, whole);
        }

        /** GRAMS and TRACES lose a part; HOLDS are of the GRAMS, and stay. */
        void lose(int one, int part, int whole) {
            for (int what = GRAMS; what < HOLDS; what++) {
                become(one, what, number(one, what) - partOf(one, what, part, whole));
            }
        }

        void addTin(int tin) {
            int before = number(CRUCIBLE, GRAMS);
            int grams = Math.min(MOST_GRAMS, before + tin);
            become(CRUCIBLE, GRAMS, grams);
            become(CRUCIBLE, TIN, Math.min(grams, number(CRUCIBLE, TIN) + tin));
            for (int what = HOLDS; what < NUMBERS; what++) {
                long held = (long) number(CRUCIBLE, what) * before;
                become(CRUCIBLE, what, quotient(held, grams));
            }
        }

        /** The new THING of what THE CRUCIBLE has, ahead of the SCRAP of what is kept. */
        int addCast(int km, int keep) {
            int thing = add(km);
            int scrap = keep > 0 ? add(100 * SCRAP) : -1;
            for (int what = GRAMS; what < NUMBERS; what++) {
                boolean isHeld = what >= HOLDS;
                int all = number(CRUCIBLE, what);
                int back = isHeld ? all : partOf(CRUCIBLE, what, keep, 10);
                become(thing, what, isHeld ? all : all - back);
                become(scrap, what, back);
            }
            fill(CRUCIBLE, 0);
            return thing;
        }

        void passYears(int n) {
            for (int year = 0; year < n; year++) {
                passYear();
            }
        }

        private void passYear() {
            years++;
            for (int thing = 0; thing < size; thing++) {
                z = z * 1103515245 + 12345;
                if ((z >>> 8) % 100 < number(thing, M)) {
                    lose(thing, 1, 100);
                }
            }
        }

        /** Sets go by as bits, the least first, so that a later one must be better. */
        int mostOf(int what, int n) {
            int best = 0;
            int bestHolds = 0;
            for (int set = 1; set < 1 << size; set++) {
                int things = Integer.bitCount(set);
                int holds = things <= n ? together(set, what) : -1;
                if (holds > bestHolds
                        || holds == bestHolds && things < Integer.bitCount(best)) {
                    best = set;
                    bestHolds = holds;
                }
            }
            return best;
        }

        /** HOLDS of a set together; -1: one of it has no GRAMS, or there is none. */
        int together(int set, int what) {
            long held = 0;
            long all = 0;
            for (int thing = 0; thing < size; thing++) {
                int grams = number(thing, GRAMS);
                if ((set >> thing & 1) == 1) {
                    if (grams == 0) {
                        return -1;
                    }
                    held += (long) grams * number(thing, what);
                    all += grams;
                }
            }
            return all == 0 ? -1 : quotient(held, all);
        }
    }

    /** All that an IMAGE keeps. */
    private static final class Forge {
        final Bronze bronze = new Bronze();
        final Rows tape = new Rows(TAPE, 1);
        final Rows claims = new Rows(CLAIMS, 2);
        final Rows lostPapers = new Rows(PAPERS, 3);
        final Rows weighings = new Rows(WEIGHINGS, 3);
        final Rows waiting = new Rows(WAITING, 1);
        private final Rows rings = new Rows(TAPE, 1);
        private final Rows counts = new Rows(TAPE, 1);
        private final Worker worker = new Worker();

        void copyFrom(Forge other) {
            bronze.copyFrom(other.bronze);
            tape.copyFrom(other.tape);
            claims.copyFrom(other.claims);
            lostPapers.copyFrom(other.lostPapers);
            weighings.copyFrom(other.weighings);
            waiting.copyFrom(other.waiting);
            rings.copyFrom(other.rings);
            counts.copyFrom(other.counts);
        }

        Rows textOf(int use) {
            return use == USE_RINGS ? rings : counts;
        }

        int numberOf(Bronze things, int thing, int what) {
            return what == TONE ? tone(things, thing) : things.number(thing, what);
        }

        private int tone(Bronze things, int thing) {
            int grams = things.number(thing, GRAMS);
            int m = things.number(thing, M);
            int tin = quotient(1000L * things.number(thing, TIN), grams);
            int plain = 1000 - tin;
            switch (things.number(thing, KIND)) {
                case BELL:
                    return ring(grams, tin, m);
                case GUN:
                    return plain / 2 + m;
                case POT:
                    return plain - 2 * m;
                case CHIME:
                    return ring(grams, tin, m) + 2 * m;
                case HOWITZER:
                    return plain / 2 + m + grams / 1000;
                case SCRAP:
                    return 0 - (plain - 2 * m);
                default:
                    return plain;
            }
        }

        private int ring(int grams, int tin, int m) {
            if (rings.size() == 0) {
                return 1000 - tin + m;
            }
            return held(worker.value(rings, grams, tin, m), MOST_TOLD);
        }

        private static int held(int v, int greatest) {
            return Math.max(0, Math.min(greatest, v));
        }

        /** What a CLAIM counts. */
        int counted(int claim) {
            int claimed = claims.at(claim, 1);
            if (counts.size() == 0) {
                return claimed;
            }
            int thing = claims.at(claim, 0);
            int grams = bronze.number(thing, GRAMS);
            return held(worker.value(counts, claimed, grams, claimants(thing)), claimed);
        }

        private int claimants(int thing) {
            int all = 0;
            for (int claim = 0; claim < claims.size(); claim++) {
                if (claims.at(claim, 0) == thing) {
                    all++;
                }
            }
            return all;
        }

        /** What the CLAIMS of a THING with numbers below one count together. */
        private int countedBelow(int thing, int below) {
            int all = 0;
            for (int claim = 0; claim < below && claim < claims.size(); claim++) {
                if (claims.at(claim, 0) == thing) {
                    all += counted(claim);
                }
            }
            return all;
        }

        int shareOf(int claim, int law) {
            int thing = claims.at(claim, 0);
            int grams = bronze.number(thing, GRAMS);
            int counted = counted(claim);
            if (law == EVEN) {
                return Math.min(counted, quotient(grams, claimants(thing)));
            }
            if (law == AS_MUCH) {
                int all = countedBelow(thing, claims.size());
                return all <= grams ? counted : quotient((long) grams * counted, all);
            }
            return held(grams - countedBelow(thing, claim), counted);
        }

        int leftOf(int thing, int law) {
            int grams = bronze.number(thing, GRAMS);
            for (int claim = 0; claim < claims.size(); claim++) {
                if (claims.at(claim, 0) == thing) {
                    grams -= shareOf(claim, law);
                }
            }
            return grams;
        }
    }

    /**
     * Reads THE TAPE as a TEXT. What it read stands in the order in which it is worked out:
     * a NUMBER as itself, NAMES as -1, -2, -3, an operator as its byte below 0, behind what
     * it works on.
     */
    private static final class Reader {
        // Levels of operators, those that bind least first.
        private static final int EITHER = 0;
        private static final int BOTH = 1;
        private static final int COMPARED = 2;
        private static final int SUMS = 3;
        private static final int PRODUCTS = 4;
        private static final int NO_LEVEL = -1;

        private final Rows bytes = new Rows(TAPE, 1);
        private final Rows code = new Rows(TAPE, 1);
        private int use;
        private int place;

        /** The FAULT, or -1. */
        int read(Rows tape, int usedFor) {
            bytes.copyFrom(tape);
            code.clear();
            use = usedFor;
            place = 0;
            boolean isText = readLevel(EITHER, 0) && place == bytes.size();
            return isText ? -1 : place;
        }

        void writeTo(Rows text) {
            text.copyFrom(code);
        }

        private int peek() {
            return bytes.has(place) ? bytes.at(place, 0) : -1;
        }

        /** Where it answers false, the place stays at the byte with which no TEXT goes on. */
        private boolean readLevel(int level, int open) {
            if (level > PRODUCTS) {
                return readValue(open);
            }
            if (!readLevel(level + 1, open)) {
                return false;
            }
            int most = level == COMPARED ? 1 : TAPE;
            for (int more = 0; more < most && levelOf(peek()) == level; more++) {
                int operator = peek();
                place++;
                if (!readLevel(level + 1, open)) {
                    return false;
                }
                code.append(-operator, 0, 0);
            }
            return true;
        }

        private static int levelOf(int sign) {
            switch (sign) {
                case '|':
                    return EITHER;
                case '&':
                    return BOTH;
                case '<':
                case '=':
                case '>':
                    return COMPARED;
                case '+':
                case '-':
                    return SUMS;
                case '*':
                case '/':
                case '%':
                    return PRODUCTS;
                default:
                    return NO_LEVEL;
            }
        }

        private boolean readValue(int open) {
            int sign = peek();
            if (isDigit(sign)) {
                readNumber();
                return true;
            }
            if (sign == '!' || sign == '(') {
                return open < MOST_OPEN && readOpened(sign, open + 1);
            }
            int name = nameOf(sign);
            if (name < 0) {
                return false;
            }
            place++;
            code.append(-1 - name, 0, 0);
            return true;
        }

        private boolean readOpened(int sign, int open) {
            place++;
            if (sign == '!') {
                if (!readValue(open)) {
                    return false;
                }
                code.append(-sign, 0, 0);
                return true;
            }
            if (!readLevel(EITHER, open) || peek() != ')') {
                return false;
            }
            place++;
            return true;
        }

        private void readNumber() {
            int v = 0;
            for (int digit = 0; digit < MOST_DIGITS && isDigit(peek()); digit++) {
                v = v * 10 + peek() - '0';
                place++;
            }
            code.append(v, 0, 0);
        }

        private static boolean isDigit(int sign) {
            return sign >= '0' && sign <= '9';
        }

        private int nameOf(int sign) {
            for (int name = 0; name < NAMES_OF_USE; name++) {
                int place = use * NAMES_OF_USE + name;
                if (place >= 0 && place < NAMES.length && NAMES[place] == sign) {
                    return name;
                }
            }
            return -1;
        }
    }

    /** Works out what the Reader has read. */
    private static final class Worker {
        private final int[] stack = new int[TAPE];
        private int height;

        int value(Rows code, int first, int second, int third) {
            height = 0;
            for (int i = 0; i < code.size(); i++) {
                int token = code.at(i, 0);
                if (token >= 0) {
                    push(token);
                } else if (token >= -NAMES_OF_USE) {
                    push(token == -1 ? first : token == -2 ? second : third);
                } else if (token == -'!') {
                    push(pop() == 0 ? 1 : 0);
                } else {
                    int right = pop();
                    int left = pop();
                    push(joined(-token, left, right));
                }
            }
            return pop();
        }

        private void push(int v) {
            if (height >= 0 && height < stack.length) {
                stack[height] = v;
                height++;
            }
        }

        private int pop() {
            if (height < 1 || height > stack.length) {
                return 0;
            }
            height--;
            return stack[height];
        }

        private static int joined(int operator, int left, int right) {
            switch (operator) {
                case '|':
                    return left != 0 || right != 0 ? 1 : 0;
                case '&':
                    return left != 0 && right != 0 ? 1 : 0;
                case '<':
                    return left < right ? 1 : 0;
                case '=':
                    return left == right ? 1 : 0;
                case '>':
                    return left > right ? 1 : 0;
                case '+':
                    return left + right;
                case '-':
                    return left - right;
                case '*':
                    return left * right;
                case '/':
                    return right == 0 ? 0 : left / right;
                default:
                    return right == 0 ? 0 : left % right;
            }
        }
    }

    /** What THINGS are behind HISTORIES, and which HISTORIES fit the WEIGHINGS. */
    private static final class Histories {
        private final Bronze behind = new Bronze();
        private final Rows found = new Rows(HISTORIES, 1);
        private final int[] grams = new int[HISTORIES * THINGS];

        void follow(Forge forge, int history) {
            behind.copyFrom(forge.bronze);
            Rows papers = forge.lostPapers;
            for (int paper = 0; paper < papers.size(); paper++) {
                if ((history >> paper & 1) == 1) {
                    behind.pour(papers.at(paper, 0), papers.at(paper, 1), papers.at(paper, 2));
                }
            }
        }

        int numberBehind(int thing, int what) {
            return behind.number(thing, what);
        }

        /** All that fit, the least first. */
        void find(Forge forge) {
            found.clear();
            for (int history = 0; history < 1 << forge.lostPapers.size(); history++) {
                follow(forge, history);
                if (isSo(forge.weighings)) {
                    noteGrams(found.append(history, 0, 0));
                }
            }
        }

        private boolean isSo(Rows weighings) {
            for (int i = 0; i < weighings.size(); i++) {
                int off = behind.number(weighings.at(i, 0), GRAMS) - weighings.at(i, 1);
                if (Math.abs(off) > weighings.at(i, 2)) {
                    return false;
                }
            }
            return true;
        }

        private void noteGrams(int fit) {
            for (int thing = 0; thing < THINGS; thing++) {
                int place = fit * THINGS + thing;
                if (place >= 0 && place < grams.length) {
                    grams[place] = behind.number(thing, GRAMS);
                }
            }
        }

        private int notedGrams(int fit, int thing) {
            int place = fit * THINGS + thing;
            return place >= 0 && place < grams.length ? grams[place] : 0;
        }

        int size() {
            return found.size();
        }

        int fitting(int fit) {
            return found.at(fit, 0);
        }

        int inAll(int all) {
            int set = all;
            for (int fit = 0; fit < found.size(); fit++) {
                set &= fitting(fit);
            }
            return set;
        }

        int inAny() {
            int set = 0;
            for (int fit = 0; fit < found.size(); fit++) {
                set |= fitting(fit);
            }
            return set;
        }

        int mostPapers() {
            int most = 0;
            for (int fit = 0; fit < found.size(); fit++) {
                most = Math.max(most, Integer.bitCount(fitting(fit)));
            }
            return most;
        }

        /** The least or the greatest of a THING's number behind all that fit. */
        int outermost(Forge forge, int thing, int what, boolean isGreatest) {
            int out = 0;
            for (int fit = 0; fit < found.size(); fit++) {
                follow(forge, fitting(fit));
                int v = behind.number(thing, what);
                if (fit == 0 || (isGreatest ? v > out : v < out)) {
                    out = v;
                }
            }
            return out;
        }

        int bestParted(int things) {
            int best = 0;
            int bestHeap = HISTORIES + 1;
            for (int thing = 0; thing < things; thing++) {
                int heap = greatestHeap(thing);
                if (heap < bestHeap) {
                    best = thing;
                    bestHeap = heap;
                }
            }
            return best;
        }

        private int greatestHeap(int thing) {
            int greatest = 0;
            for (int fit = 0; fit < found.size(); fit++) {
                int heap = 0;
                for (int other = fit; other < found.size(); other++) {
                    if (notedGrams(other, thing) == notedGrams(fit, thing)) {
                        heap++;
                    }
                }
                greatest = Math.max(greatest, heap);
            }
            return greatest;
        }

        /** The first place where other numbers stand than those that fit, or -1. */
        int firstUnlike(Rows others) {
            int both = Math.max(others.size(), found.size());
            for (int place = 0; place < both; place++) {
                if (!others.has(place) || !found.has(place)
                        || others.at(place, 0) != fitting(place)) {
                    return place;
                }
            }
            return -1;
        }
    }

    /** The VOICES of one THING at a time, and THE TRACE. */
    private static final class Voices {
        private final Rows trace = new Rows(TRACE, 1);
        private int kind;
        private int k;
        private int m;
        private boolean isParted;

        void begin(int kindOf, int number, int mOf) {
            trace.clear();
            kind = kindOf;
            k = number;
            m = mOf;
            isParted = false;
        }

        Rows trace() {
            return trace;
        }

        boolean isParted() {
            return isParted;
        }

        /** A VOICE as the THING's own KIND has it. */
        private int own(int voice, int x, int depth) {
            return sound(kind, voice, x, depth);
        }

        /** A VOICE from a KIND on up. */
        private int sound(int from, int voice, int x, int depth) {
            int at = from;
            for (int step = 0; step < KINDS && bodyOf(at, voice) == 0; step++) {
                at = above(at);
            }
            int body = bodyOf(at, voice);
            trace.append(body, 0, 0);
            return depth > DEEPEST ? 0 : work(body, above(at), x, depth + 1);
        }

        private static int bodyOf(int kind, int voice) {
            int place = kind * VOICES + voice;
            return place >= 0 && place < BODIES.length ? BODIES[place] : 0;
        }

        private int work(int body, int over, int x, int depth) {
            switch (body) {
                case 10:
                    return x + k;
                case 11:
                    return own(RINGS, x, depth) * 2;
                case 12:
                    return own(WEIGHS, x, depth) - m;
                case 13:
                    return part(x);
                case 20:
                    return sound(over, RINGS, x, depth) - 4;
                case 21:
                    return sound(over, PARTS, x, depth) + own(WEIGHS, 1, depth);
                case 30:
                    return 0 - sound(over, WEIGHS, x, depth);
                case 40:
                    return sound(over, MELTS, x / 2, depth);
                case 50:
                    return sound(over, RINGS, x, depth) * 3;
                case 51:
                    return sound(over, MELTS, x, depth) ^ k;
                case 60:
                    return sound(over, WEIGHS, x + 1, depth);
                case 70:
                    return 6;
                case 71:
                    return sound(over, WEIGHS, x, depth) + m;
                default:
                    return 0;
            }
        }

        /** What stands to the right of it is worked out all the same: THE TRACE tells it. */
        private int part(int x) {
            int by = m - k;
            if (by == 0) {
                isParted = true;
                return 0;
            }
            return x / by;
        }
    }

    /** A row of numbers of so many bits; 0 bits: it is missing. */
    private static final class Sheet {
        private final int[] numbers = new int[SHEET_NUMBERS];
        private int bits;
        private int size;

        void begin(int bitsOfEach, int n) {
            bits = bitsOfEach;
            size = Math.max(0, Math.min(SHEET_NUMBERS, n));
            Arrays.fill(numbers, 0);
        }

        boolean isMissing() {
            return bits == 0;
        }

        boolean isLike(Sheet other) {
            return bits == other.bits;
        }

        int size() {
            return size;
        }

        boolean has(int i) {
            return i >= 0 && i < size;
        }

        /** Asked so that no sum can wrap. */
        boolean hasRange(int i, int n) {
            int end = Math.min(size, numbers.length);
            return i >= 0 && n >= 0 && n <= end && i <= end - n;
        }

        int at(int i) {
            return has(i) && i < numbers.length ? numbers[i] : 0;
        }

        void write(int i, int v) {
            if (has(i) && i < numbers.length) {
                numbers[i] = bits == 8 ? (byte) v : bits == 16 ? (short) v : v;
            }
        }

        void copyRange(int i, Sheet into, int j, int n) {
            if (hasRange(i, n) && into.hasRange(j, n)) {
                System.arraycopy(numbers, i, into.numbers, j, n);
            }
        }
    }
}
