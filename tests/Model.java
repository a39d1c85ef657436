import java.math.BigInteger;
import java.util.ArrayDeque;
import java.util.ArrayList;
import java.util.Deque;
import java.util.HashMap;
import java.util.List;
import java.util.Map;

/** The document once more, in other ways: great numbers, copies, maps, exceptions, recursion. */
final class Model {
    /** An ERROR, by its number. */
    private static final class Refused extends Exception {
        private static final long serialVersionUID = 1L;
        final int k;

        Refused(int k) {
            super(null, null, false, false);
            this.k = k;
        }
    }

    private interface Act {
        int done() throws Refused;
    }

    private static final class Lump {
        int kind;
        int m;
        BigInteger grams = BigInteger.ZERO;
        BigInteger[] traces = {BigInteger.ZERO, BigInteger.ZERO, BigInteger.ZERO};
        BigInteger[] holds = {BigInteger.ZERO, BigInteger.ZERO, BigInteger.ZERO, BigInteger.ZERO};

        Lump copy() {
            Lump copy = new Lump();
            copy.kind = kind;
            copy.m = m;
            copy.grams = grams;
            copy.traces = traces.clone();
            copy.holds = holds.clone();
            return copy;
        }

        /** What is taken away, as a Lump of its own. */
        Lump take(int by, int of) {
            Lump part = copy();
            part.grams = cut(grams, by, of);
            grams = grams.subtract(part.grams);
            for (int i = 0; i < 3; i++) {
                part.traces[i] = cut(traces[i], by, of);
                traces[i] = traces[i].subtract(part.traces[i]);
            }
            return part;
        }

        void mix(Lump part) {
            BigInteger both = grams.add(part.grams);
            for (int i = 0; i < 4; i++) {
                BigInteger held = part.grams.multiply(part.holds[i])
                        .add(grams.multiply(holds[i]));
                holds[i] = both.signum() == 0 ? BigInteger.ZERO : held.divide(both);
            }
            grams = both.min(BigInteger.valueOf(9999999));
            for (int i = 0; i < 3; i++) {
                traces[i] = traces[i].add(part.traces[i]).min(grams);
            }
        }

        private static BigInteger cut(BigInteger v, int by, int of) {
            return v.multiply(BigInteger.valueOf(by)).divide(BigInteger.valueOf(of));
        }

        int is(int what) {
            return what == 0 ? kind : what == 1 ? m : what == 2 ? grams.intValueExact()
                    : what < 6 ? traces[what - 3].intValueExact()
                    : holds[what - 6].intValueExact();
        }
    }

    private static final class World {
        List<Lump> things = new ArrayList<>();
        Lump crucible = new Lump();
        int firsts;
        int years;
        int z = 1;
        String tape = "";
        Map<Integer, String> texts = new HashMap<>();
        List<int[]> claims = new ArrayList<>();
        List<int[]> papers = new ArrayList<>();
        List<int[]> weighings = new ArrayList<>();
        List<Integer> waiting = new ArrayList<>();

        World copy() {
            World copy = new World();
            for (Lump thing : things) {
                copy.things.add(thing.copy());
            }
            copy.crucible = crucible.copy();
            copy.firsts = firsts;
            copy.years = years;
            copy.z = z;
            copy.tape = tape;
            copy.texts = new HashMap<>(texts);
            copy.claims = new ArrayList<>(claims);
            copy.papers = new ArrayList<>(papers);
            copy.weighings = new ArrayList<>(weighings);
            copy.waiting = new ArrayList<>(waiting);
            return copy;
        }

        void year() {
            years++;
            for (Lump thing : things) {
                z = BigInteger.valueOf(z).multiply(BigInteger.valueOf(1103515245))
                        .add(BigInteger.valueOf(12345)).intValue();
                long draw = (z & 0xffffffffL) / 256;
                if (draw % 100 < thing.m) {
                    thing.take(1, 100);
                }
            }
        }
    }

    private World now = new World();
    private World image;
    private int images;
    private final List<Integer> trace = new ArrayList<>();
    private final List<List<Integer>> sheets = new ArrayList<>();
    private final int[] bits = new int[4];
    private final int[] told = new int[7];

    Model() {
        for (int i = 0; i < 4; i++) {
            sheets.add(new ArrayList<>());
        }
    }

    private int answer(Act act) {
        try {
            return act.done();
        } catch (Refused refused) {
            told[refused.k]++;
            return -1000000000 - refused.k;
        }
    }

    private static void ask(boolean right, int k) throws Refused {
        if (!right) {
            throw new Refused(k);
        }
    }

    private static boolean in(int v, int a, int b) {
        return a <= v && v <= b;
    }

    private boolean isThing(int thing) {
        return in(thing, 0, now.things.size() - 1);
    }

    private int grams() {
        int all = 0;
        for (Lump thing : now.things) {
            all += thing.is(2);
        }
        return all;
    }

    int thing(int km, int grams) {
        return answer(() -> {
            ask(in(km, 0, 699) && in(grams, 0, 9999999), 1);
            ask(now.things.size() < 12, 4);
            Lump thing = new Lump();
            thing.kind = km / 100;
            thing.m = km % 100;
            thing.grams = BigInteger.valueOf(grams);
            if (now.firsts < 4) {
                thing.holds[now.firsts++] = BigInteger.valueOf(1000000);
            }
            now.things.add(thing);
            return now.things.size() - 1;
        });
    }

    int thingIs(int thing, int what) {
        return answer(() -> {
            ask(isThing(thing) && in(what, 0, 10), 1);
            return is(now.things.get(thing), what);
        });
    }

    private int is(Lump thing, int what) {
        return what == 10 ? tone(thing, thing.kind) : thing.is(what);
    }

    private int tin(Lump thing) {
        return thing.grams.signum() == 0 ? 0
                : thing.traces[0].multiply(BigInteger.valueOf(1000)).divide(thing.grams)
                        .intValueExact();
    }

    private int tone(Lump thing, int as) {
        int grams = thing.is(2);
        switch (as) {
            case 0:
                return 1000 - tin(thing);
            case 1:
                if (!now.texts.containsKey(0)) {
                    return 1000 - tin(thing) + thing.m;
                }
                int tone = worth(now.texts.get(0), "gsm", grams, tin(thing), thing.m);
                return tone < 0 ? 0 : tone > 9999 ? 9999 : tone;
            case 2:
                return tone(thing, 0) / 2 + thing.m;
            case 3:
                return tone(thing, 0) - 2 * thing.m;
            case 4:
                return tone(thing, 1) + 2 * thing.m;
            case 5:
                return tone(thing, 2) + grams / 1000;
            default:
                return -tone(thing, 3);
        }
    }

    int as(int thing, int kind) {
        return answer(() -> {
            ask(isThing(thing) && in(kind, 0, 6), 1);
            int is = now.things.get(thing).kind;
            String line = new String[] {"0", "10", "20", "30", "410", "520", "630"}[is];
            ask(line.indexOf('0' + kind) >= 0, 5);
            return now.things.get(thing).is(2);
        });
    }

    int set(int thing, int what, int v) {
        return answer(() -> {
            ask(isThing(thing) && v >= 0, 1);
            Lump lump = now.things.get(thing);
            int was;
            if (what == 0 && v < 7) {
                was = lump.kind;
                lump.kind = v;
            } else if (what == 1 && v < 100) {
                was = lump.m;
                lump.m = v;
            } else {
                ask(in(what, 3, 5) && v <= lump.is(2), 1);
                was = lump.is(what);
                lump.traces[what - 3] = BigInteger.valueOf(v);
            }
            return was;
        });
    }

    int melt(int thing, int eighths) {
        return answer(() -> {
            ask(isThing(thing) && in(eighths, 1, 8), 1);
            ask(now.things.get(thing).is(2) > 0, 3);
            now.crucible.mix(now.things.get(thing).take(eighths, 8));
            return now.crucible.is(2);
        });
    }

    int crucible(int what) {
        return answer(() -> {
            ask(in(what, 2, 9), 1);
            return now.crucible.is(what);
        });
    }

    int cast(int km, int tin, int law) {
        return answer(() -> {
            ask(in(km, 0, 699) && in(tin, 0, 9999) && in(law, 0, 999) && law % 10 == 0, 1);
            ask(now.crucible.is(2) > 0, 3);
            int keep = law % 100 / 10;
            ask(now.things.size() + (keep > 0 ? 2 : 1) <= 12, 4);
            Lump all = now.crucible;
            BigInteger before = all.grams;
            all.grams = before.add(BigInteger.valueOf(tin)).min(BigInteger.valueOf(9999999));
            all.traces[0] = all.traces[0].add(BigInteger.valueOf(tin)).min(all.grams);
            for (int i = 0; i < 4; i++) {
                all.holds[i] = all.holds[i].multiply(before).divide(all.grams);
            }
            all.take(law / 100, 100);
            Lump scrap = all.take(keep, 10);
            all.kind = km / 100;
            all.m = km % 100;
            scrap.kind = 6;
            now.things.add(all);
            int number = now.things.size() - 1;
            if (keep > 0) {
                now.things.add(scrap);
            }
            now.crucible = new Lump();
            return number;
        });
    }

    int years(int n) {
        return answer(() -> {
            ask(in(n, 1, 60), 1);
            ask(now.years + n <= 9999, 3);
            for (int i = 0; i < n; i++) {
                now.year();
            }
            return grams();
        });
    }

    int then(int n, int thing, int what) {
        return answer(() -> {
            ask(in(n, 0, 60) && isThing(thing) && in(what, 0, 10), 1);
            World ahead = now.copy();
            for (int i = 0; i < n; i++) {
                ahead.year();
            }
            return is(ahead.things.get(thing), what);
        });
    }

    int seed(int v) {
        int was = now.z;
        now.z = v;
        return was;
    }

    int feed(long word, int n) {
        return answer(() -> {
            ask(in(n, 1, 8), 1);
            ask(now.tape.length() + n <= 60, 4);
            for (int i = 0; i < n; i++) {
                now.tape += (char) (word >>> 8 * i & 255);
            }
            return now.tape.length();
        });
    }

    int text(int use) {
        return answer(() -> {
            ask(in(use, 0, 1), 1);
            String text = now.tape;
            now.tape = "";
            int fault = fault(text, use == 0 ? "gsm" : "cgn");
            if (fault >= 0) {
                return -10 - fault;
            }
            now.texts.put(use, text);
            return 1;
        });
    }

    /** Goes over a text by what may come, with a heap of what is open. */
    private static int fault(String text, String names) {
        Deque<Character> open = new ArrayDeque<>();
        Deque<Boolean> compared = new ArrayDeque<>();
        boolean isCompared = false;
        boolean wantsValue = true;
        int digits = 0;
        for (int i = 0; i < text.length(); i++) {
            char c = text.charAt(i);
            if (wantsValue && (c == '!' || c == '(')) {
                if (open.size() == 5) {
                    return i;
                }
                open.push(c);
                if (c == '(') {
                    compared.push(isCompared);
                    isCompared = false;
                }
                continue;
            }
            if (wantsValue) {
                if (names.indexOf(c) < 0 && !in(c, '0', '9')) {
                    return i;
                }
                digits = in(c, '0', '9') ? 1 : 0;
                wantsValue = false;
            } else if (in(c, '0', '9') && digits > 0 && digits < 4) {
                digits++;
                continue;
            } else if (c == ')' && open.contains('(')) {
                digits = 0;
                open.pop();
                isCompared = compared.pop();
            } else if (c == '|' || c == '&') {
                isCompared = false;
                wantsValue = true;
            } else if ((c == '<' || c == '=' || c == '>') && !isCompared) {
                isCompared = true;
                wantsValue = true;
            } else if (c != 0 && "+-*/%".indexOf(c) >= 0) {
                wantsValue = true;
            } else {
                return i;
            }
            while (!wantsValue && !open.isEmpty() && open.peek() == '!') {
                open.pop();
            }
        }
        return wantsValue || !open.isEmpty() ? text.length() : -1;
    }

    /** Splits a text at the last of the operators that bind least. */
    private static int worth(String text, String names, int... values) {
        for (String operators : new String[] {"|", "&", "<=>", "+-", "*/%"}) {
            int depth = 0;
            for (int i = text.length() - 1; i > 0; i--) {
                char c = text.charAt(i);
                depth += c == ')' ? 1 : c == '(' ? -1 : 0;
                if (depth == 0 && operators.indexOf(c) >= 0) {
                    int left = worth(text.substring(0, i), names, values);
                    int right = worth(text.substring(i + 1), names, values);
                    return joined(c, left, right);
                }
            }
        }
        if (text.charAt(0) == '!') {
            return worth(text.substring(1), names, values) == 0 ? 1 : 0;
        }
        if (text.charAt(0) == '(') {
            return worth(text.substring(1, text.length() - 1), names, values);
        }
        int name = names.indexOf(text.charAt(0));
        return name >= 0 ? values[name] : Integer.parseInt(text);
    }

    private static int joined(char c, int left, int right) {
        boolean is = c == '|' ? left != 0 || right != 0 : c == '&' ? left != 0 && right != 0
                : c == '<' ? left < right : c == '=' ? left == right : left > right;
        BigInteger a = BigInteger.valueOf(left);
        BigInteger b = BigInteger.valueOf(right);
        switch (c) {
            case '+':
                return a.add(b).intValue();
            case '-':
                return a.subtract(b).intValue();
            case '*':
                return a.multiply(b).intValue();
            case '/':
                return right == 0 ? 0 : a.divide(b).intValue();
            case '%':
                return right == 0 ? 0 : a.remainder(b).intValue();
            default:
                return is ? 1 : 0;
        }
    }

    int untell(int use) {
        return answer(() -> {
            ask(in(use, 0, 1), 1);
            return now.texts.remove(use) == null ? 0 : 1;
        });
    }

    int claim(int thing, int grams) {
        return answer(() -> {
            ask(isThing(thing) && in(grams, 1, 99999), 1);
            ask(now.claims.size() < 10, 4);
            now.claims.add(new int[] {thing, grams});
            return now.claims.size() - 1;
        });
    }

    private int counts(int[] claim) {
        if (!now.texts.containsKey(1)) {
            return claim[1];
        }
        int n = 0;
        for (int[] other : now.claims) {
            n += other[0] == claim[0] ? 1 : 0;
        }
        int v = worth(now.texts.get(1), "cgn", claim[1], now.things.get(claim[0]).is(2), n);
        return v < 0 ? 0 : v > claim[1] ? claim[1] : v;
    }

    int claimIs(int claim, int what) {
        return answer(() -> {
            ask(in(claim, 0, now.claims.size() - 1) && in(what, 0, 2), 1);
            int[] it = now.claims.get(claim);
            return what == 2 ? counts(it) : it[what];
        });
    }

    private int[] shares(int thing, int law) {
        int grams = now.things.get(thing).is(2);
        int[] shares = new int[now.claims.size()];
        int n = 0;
        long all = 0;
        for (int[] claim : now.claims) {
            n += claim[0] == thing ? 1 : 0;
            all += claim[0] == thing ? counts(claim) : 0;
        }
        int left = grams;
        for (int i = 0; i < shares.length; i++) {
            if (now.claims.get(i)[0] == thing) {
                int counts = counts(now.claims.get(i));
                if (law == 0) {
                    shares[i] = Math.min(counts, grams / n);
                } else if (law == 1) {
                    shares[i] = all <= grams ? counts : (int) ((long) grams * counts / all);
                } else {
                    shares[i] = Math.min(left, counts);
                }
                left -= shares[i];
            }
        }
        return shares;
    }

    int share(int claim, int law) {
        return answer(() -> {
            ask(in(claim, 0, now.claims.size() - 1) && in(law, 0, 2), 1);
            return shares(now.claims.get(claim)[0], law)[claim];
        });
    }

    int left(int thing, int law) {
        return answer(() -> {
            ask(isThing(thing) && in(law, 0, 2), 1);
            int left = now.things.get(thing).is(2);
            for (int share : shares(thing, law)) {
                left -= share;
            }
            return left;
        });
    }

    int paper(int from, int into, int eighths) {
        return answer(() -> {
            ask(isThing(from) && isThing(into) && from != into && in(eighths, 1, 8), 1);
            ask(now.papers.size() < 6, 4);
            now.papers.add(new int[] {from, into, eighths});
            return now.papers.size() - 1;
        });
    }

    int weigh(int thing, int grams, int slip) {
        return answer(() -> {
            ask(isThing(thing) && in(grams, 0, 9999999) && in(slip, 0, 99), 1);
            ask(now.weighings.size() < 8, 4);
            now.weighings.add(new int[] {thing, grams, slip});
            return now.weighings.size() - 1;
        });
    }

    int forget(int what) {
        return answer(() -> {
            ask(in(what, 0, 1), 1);
            List<int[]> those = what == 0 ? now.papers : now.weighings;
            int were = those.size();
            those.clear();
            return were;
        });
    }

    private List<Lump> behind(int history) {
        List<Lump> things = now.copy().things;
        for (int i = 0; i < now.papers.size(); i++) {
            if ((history & 1 << i) != 0) {
                int[] paper = now.papers.get(i);
                things.get(paper[1]).mix(things.get(paper[0]).take(paper[2], 8));
            }
        }
        return things;
    }

    private boolean isHistory(int history) {
        return in(history, 0, (1 << now.papers.size()) - 1);
    }

    int by(int history, int thing, int what) {
        return answer(() -> {
            ask(isHistory(history) && isThing(thing) && in(what, 2, 9), 1);
            return behind(history).get(thing).is(what);
        });
    }

    private List<Integer> fitting() {
        List<Integer> fits = new ArrayList<>();
        for (int h = 0; isHistory(h); h++) {
            List<Lump> things = behind(h);
            if (now.weighings.stream()
                    .allMatch(w -> Math.abs(things.get(w[0]).is(2) - w[1]) <= w[2])) {
                fits.add(h);
            }
        }
        return fits;
    }

    int fits(int what) {
        return answer(() -> {
            ask(in(what, 0, 4), 1);
            List<Integer> fits = fitting();
            ask(!fits.isEmpty() || what != 1 && what != 4, 2);
            int n = now.papers.size();
            switch (what) {
                case 0:
                    return fits.size();
                case 1:
                    return fits.get(0);
                case 2:
                    return fits.stream().reduce((1 << n) - 1, (a, b) -> a & b);
                case 3:
                    return fits.stream().reduce(0, (a, b) -> a | b);
                default:
                    return n - fits.stream().mapToInt(Integer::bitCount).max().getAsInt();
            }
        });
    }

    int span(int thing, int first, int greatest) {
        return answer(() -> {
            ask(isThing(thing) && in(first, 0, 3) && in(greatest, 0, 1), 1);
            List<Integer> fits = fitting();
            ask(!fits.isEmpty(), 2);
            List<Integer> holds = new ArrayList<>();
            fits.forEach(h -> holds.add(behind(h).get(thing).is(6 + first)));
            holds.sort(null);
            return greatest == 0 ? holds.get(0) : holds.get(holds.size() - 1);
        });
    }

    int next() {
        return answer(() -> {
            List<Integer> fits = fitting();
            ask(!fits.isEmpty() && !now.things.isEmpty(), 2);
            List<List<Lump>> all = new ArrayList<>();
            fits.forEach(h -> all.add(behind(h)));
            int best = -1;
            int least = Integer.MAX_VALUE;
            for (int i = 0; i < now.things.size(); i++) {
                Map<Integer, Integer> heaps = new HashMap<>();
                for (List<Lump> things : all) {
                    heaps.merge(things.get(i).is(2), 1, Integer::sum);
                }
                int heap = heaps.values().stream().max(Integer::compare).get();
                if (heap < least) {
                    least = heap;
                    best = i;
                }
            }
            return best;
        });
    }

    int most(int first, int n, int what) {
        return answer(() -> {
            ask(in(first, 0, 3) && in(n, 0, 3) && in(what, 0, 1), 1);
            int[] best = {0, 0, 0};
            grow(first, n, 0, 0, best);
            return best[what];
        });
    }

    /** Tries all sets that have what is in one and more of what comes from a THING on. */
    private void grow(int first, int n, int from, int set, int[] best) {
        BigInteger held = BigInteger.ZERO;
        BigInteger all = BigInteger.ZERO;
        for (int i = 0; i < now.things.size(); i++) {
            if ((set & 1 << i) != 0) {
                Lump thing = now.things.get(i);
                held = held.add(thing.grams.multiply(thing.holds[first]));
                all = all.add(thing.grams);
            }
        }
        int holds = all.signum() == 0 ? 0 : held.divide(all).intValueExact();
        int size = Integer.bitCount(set);
        boolean isBetter = holds != best[1] ? holds > best[1]
                : size != best[2] ? size < best[2] : set < best[0];
        if (isBetter) {
            best[0] = set;
            best[1] = holds;
            best[2] = size;
        }
        for (int i = from; n > 0 && i < now.things.size(); i++) {
            if (now.things.get(i).is(2) > 0) {
                grow(first, n - 1, i + 1, set | 1 << i, best);
            }
        }
    }

    private boolean isParted;

    int voice(int thing, int voice, int x) {
        return answer(() -> {
            ask(isThing(thing) && in(voice, 0, 3), 1);
            trace.clear();
            isParted = false;
            int v = voiced(thing, now.things.get(thing).kind, voice, x);
            ask(!isParted, 6);
            return v;
        });
    }

    private int voiced(int k, int from, int voice, int x) {
        int own = now.things.get(k).kind;
        int m = now.things.get(k).m;
        switch (from * 4 + voice) {
            case 0:
                trace.add(10);
                return x + k;
            case 1:
                trace.add(11);
                return voiced(k, own, 0, x) * 2;
            case 2:
                trace.add(12);
                return voiced(k, own, 1, x) - m;
            case 3:
                trace.add(13);
                isParted |= m == k;
                return m == k ? 0 : x / (m - k);
            case 4:
                trace.add(20);
                return voiced(k, 0, 0, x) - 4;
            case 7:
                trace.add(21);
                return voiced(k, 0, 3, x) + voiced(k, own, 1, 1);
            case 9:
                trace.add(30);
                return -voiced(k, 0, 1, x);
            case 14:
                trace.add(40);
                return voiced(k, 0, 2, x / 2);
            case 16:
                trace.add(50);
                return voiced(k, 1, 0, x) * 3;
            case 18:
                trace.add(51);
                return voiced(k, 1, 2, x) ^ k;
            case 21:
                trace.add(60);
                return voiced(k, 2, 1, x + 1);
            case 24:
                trace.add(70);
                return 6;
            case 25:
                trace.add(71);
                return voiced(k, 3, 1, x) + m;
            default:
                return voiced(k, from < 4 ? 0 : from - 3, voice, x);
        }
    }

    int body(int i) {
        return answer(() -> {
            ask(in(i, 0, trace.size() - 1), 2);
            return trace.get(i);
        });
    }

    int sheet(int sheet, int b, int n) {
        return answer(() -> {
            ask(in(sheet, 0, 3) && (b == 0 || b == 8 || b == 16 || b == 32), 1);
            ask(b == 0 || n >= 0, 3);
            ask(b == 0 || n <= 24, 1);
            bits[sheet] = b;
            sheets.get(sheet).clear();
            for (int i = 0; b > 0 && i < n; i++) {
                sheets.get(sheet).add(0);
            }
            return 1;
        });
    }

    int put(int sheet, int i, int v) {
        return answer(() -> {
            ask(in(sheet, 0, 3), 1);
            ask(bits[sheet] > 0, 2);
            ask(in(i, 0, sheets.get(sheet).size() - 1), 1);
            int off = 32 - bits[sheet];
            sheets.get(sheet).set(i, v << off >> off);
            return 1;
        });
    }

    int move(int sheet, int i, int other, int j, int n) {
        return answer(() -> {
            ask(in(sheet, 0, 3) && in(other, 0, 3), 1);
            ask(bits[sheet] > 0 && bits[other] > 0, 2);
            ask(bits[sheet] == bits[other], 5);
            ask(n >= 0 && i >= 0 && j >= 0, 1);
            ask((long) i + n <= sheets.get(sheet).size(), 1);
            ask((long) j + n <= sheets.get(other).size(), 1);
            List<Integer> were = new ArrayList<>(sheets.get(sheet));
            for (int at = 0; at < n; at++) {
                sheets.get(other).set(j + at, were.get(i + at));
            }
            return n;
        });
    }

    int papers(int sheet) {
        return answer(() -> {
            ask(in(sheet, 0, 3), 1);
            ask(bits[sheet] > 0, 2);
            List<Integer> numbers = sheets.get(sheet);
            int came = 0;
            int[] were = told.clone();
            while (3 * came + 3 <= numbers.size() && paper(numbers.get(3 * came),
                    numbers.get(3 * came + 1), numbers.get(3 * came + 2)) >= 0) {
                came++;
            }
            System.arraycopy(were, 0, told, 0, 7);
            return came;
        });
    }

    int judge(int sheet, int history) {
        return answer(() -> {
            ask(in(sheet, 0, 3) && isHistory(history), 1);
            ask(bits[sheet] > 0, 2);
            List<Lump> things = behind(history);
            int i = 0;
            while (i < things.size() && i < sheets.get(sheet).size()
                    && things.get(i).is(2) == sheets.get(sheet).get(i)) {
                i++;
            }
            return i;
        });
    }

    int image() {
        image = now.copy();
        return ++images;
    }

    int restore() {
        return answer(() -> {
            ask(image != null, 2);
            now = image.copy();
            return now.years;
        });
    }

    int tell(int v) {
        return answer(() -> {
            ask(now.waiting.size() < 24, 4);
            now.waiting.add(v);
            return now.waiting.size();
        });
    }

    int check() {
        List<Integer> fits = fitting();
        List<Integer> were = now.waiting;
        now.waiting = new ArrayList<>();
        int place = 0;
        while (place < fits.size() && place < were.size()
                && fits.get(place).equals(were.get(place))) {
            place++;
        }
        return place == fits.size() && place == were.size() ? 0 : 1 + place;
    }

    int count(int what) {
        return answer(() -> {
            ask(in(what, 0, 10), 1);
            return new int[] {now.things.size(), now.firsts, now.claims.size(),
                now.papers.size(), now.weighings.size(), grams(), now.years,
                now.tape.length(), now.waiting.size(), trace.size(), now.z}[what];
        });
    }

    int told(int k) {
        return answer(() -> {
            ask(in(k, 1, 6), 1);
            return told[k];
        });
    }
}
