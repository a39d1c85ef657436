import java.lang.reflect.Method;
import java.util.ArrayList;
import java.util.Arrays;
import java.util.List;

/** Runs of drawn calls on an object and on the Model, with the same answers to each. */
public final class RandomRunsTest {
    private static final int RUNS = 400;
    private static final int CALLS = 512;
    private static final String SIGNS = "gsmcn0123456789(!)+-*/%<=>&|";
    private static final String[] TEXTS = {
        "g", "s+m", "(g-s)*m", "c", "c/n", "g/n+1", "!c", "c-g", "1000-s*m", "g%97|m", "c&g>n",
    };

    private static long drawn = 20240607;
    private static int calls;

    private static final Due due = new Due();
    private static final List<Method> acts = new ArrayList<>();

    public static void main(String[] args) throws Exception {
        for (Method act : OldBronze.class.getDeclaredMethods()) {
            if (java.lang.reflect.Modifier.isPublic(act.getModifiers())) {
                acts.add(act);
            }
        }
        acts.sort((a, b) -> a.getName().compareTo(b.getName()));
        for (int run = 0; run < RUNS; run++) {
            run(run);
        }
        due.end();
    }

    private static int below(int n) {
        drawn = drawn * 6364136223846793005L + 1442695040888963407L;
        return (int) ((drawn >>> 33) % n);
    }

    private static void run(int run) throws Exception {
        OldBronze x = new OldBronze();
        Model model = new Model();
        calls = 0;
        // wild runs ask for much that is wrong; the others seldom do
        int wild = run % 4 == 0 ? 4 : 40;
        for (int i = 0; i < 3 + below(6); i++) {
            ask(run, x, model, "thing", below(700), below(2) == 0 ? below(2000) : grams());
        }
        while (calls < CALLS) {
            if (below(25) == 0) {
                feedText(run, x, model);
            } else {
                Method act = acts.get(below(acts.size()));
                if (isSeldom(act.getName()) && below(6) != 0) {
                    continue;
                }
                Object[] with = new Object[act.getParameterCount()];
                for (int k = 0; k < with.length; k++) {
                    int v = below(wild) == 0 ? wildly() : argument(act.getName(), k);
                    with[k] = act.getParameterTypes()[k] == long.class ? (Object) word() : v;
                }
                ask(run, x, model, act.getName(), with);
            }
        }
    }

    private static boolean isSeldom(String name) {
        return Arrays.asList("forget", "restore", "untell", "thing", "cast", "check")
                .contains(name);
    }

    private static void ask(int run, OldBronze x, Model model, String name, Object... with)
            throws Exception {
        calls++;
        for (Method act : acts) {
            if (act.getName().equals(name) && calls <= CALLS) {
                Method same = Model.class.getDeclaredMethod(name, act.getParameterTypes());
                long want = (int) same.invoke(model, with);
                due.is("run " + run + ": " + name + Arrays.toString(with),
                        (int) act.invoke(x, with), want);
            }
        }
    }

    private static void feedText(int run, OldBronze x, Model model) throws Exception {
        StringBuilder text = new StringBuilder(TEXTS[below(TEXTS.length)]);
        for (int i = below(3); i > 0; i--) {
            text.append("+-*/%<=>&|".charAt(below(10))).append(TEXTS[below(TEXTS.length)]);
        }
        if (below(3) == 0) {
            text.insert(below(text.length() + 1), SIGNS.charAt(below(SIGNS.length())));
        }
        for (int i = 0; i < text.length(); i++) {
            ask(run, x, model, "feed", (long) text.charAt(i), 1);
        }
        ask(run, x, model, "text", below(2));
    }

    private static long word() {
        long word = 0;
        for (int i = 0; i < 8; i++) {
            word = word << 8 | SIGNS.charAt(below(SIGNS.length()));
        }
        return word;
    }

    private static int grams() {
        return below(3) == 0 ? 0 : below(3) == 0 ? 9999999 - below(99) : below(10000000);
    }

    private static int wildly() {
        int[] wild = {-1, 0, 1, 2, 3, 4, 5, 6, 7, 8, 9, 10, 11, 12, 24, 25, 60, 61, 63, 64, 99,
            100, 127, 128, 700, 990, 1000, 9999, 10000, 32767, 32768, 65536, 99999, 100000,
            9999999, 10000000, Integer.MAX_VALUE, Integer.MIN_VALUE, -1000000001};
        return wild[below(wild.length)];
    }

    /** A number that mostly is right for an act's k-th argument. */
    private static int argument(String name, int k) {
        switch (name + k) {
            case "thing0":
            case "cast0":
                return below(700);
            case "thing1":
            case "weigh1":
                return below(4) == 0 ? grams() : below(2500);
            case "set1":
                return below(6);
            case "set2":
                return below(2) == 0 ? below(7) : below(1000);
            case "cast1":
                return below(10000);
            case "cast2":
                return 10 * below(100);
            case "melt1":
            case "paper2":
            case "feed1":
                return 1 + below(8);
            case "years0":
            case "then0":
                return 1 + below(60);
            case "claim1":
                return 1 + below(below(2) == 0 ? 500 : 99999);
            case "weigh2":
                return below(100);
            case "by0":
            case "judge1":
                return below(1 << below(7));
            case "fits0":
                return below(5);
            case "tell0":
                return below(8);
            case "sheet1":
                return 8 << below(3);
            case "sheet2":
                return below(25);
            case "put1":
            case "move1":
            case "move3":
                return below(8);
            case "put2":
                return below(below(4) == 0 ? 100000 : 6);
            case "move4":
                return below(6);
            case "voice2":
            case "seed0":
                return below(100000) - 50000;
            default:
                return usual(name + k);
        }
    }

    private static int usual(String argument) {
        switch (argument) {
            case "voice1":
            case "span1":
            case "most0":
            case "most1":
            case "sheet0":
            case "put0":
            case "move0":
            case "move2":
            case "papers0":
            case "judge0":
                return below(4);
            case "text0":
            case "untell0":
            case "forget0":
            case "span2":
            case "most2":
                return below(2);
            case "share1":
            case "left1":
            case "claimIs1":
                return below(3);
            case "thingIs1":
            case "then2":
            case "count0":
                return below(11);
            case "crucible0":
            case "by2":
                return 2 + below(8);
            case "told0":
                return 1 + below(6);
            default:
                return below(7);
        }
    }
}
