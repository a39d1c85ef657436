import java.util.ArrayList;
import java.util.List;

/**
 * Two objects that go the same way; one of them is then asked for what is refused. Behind that
 * both must answer alike to all that can be asked of them, but for told().
 */
final class Twins {
    /** Makes an object and brings it to some state, always the same one. */
    interface Way {
        OldBronze gone();
    }

    /** A call that is refused. */
    interface Call {
        int on(OldBronze x);
    }

    private final Due due;

    Twins(Due due) {
        this.due = due;
    }

    /** The call answers an ERROR, LOW - k, and changes nothing but what told(k) tells. */
    void refused(String name, Way way, int error, Call call) {
        OldBronze asked = way.gone();
        OldBronze other = way.gone();
        due.is(name, call.on(asked), error);
        for (int k = 1; k <= 6; k++) {
            int more = Due.LOW - k == error ? 1 : 0;
            due.is(name + ", told(" + k + ")", asked.told(k), other.told(k) + more);
        }
        List<Integer> want = seen(other);
        List<Integer> got = seen(asked);
        due.is(name + ", as much is seen", got.size(), want.size());
        for (int i = 0; i < want.size() && i < got.size(); i++) {
            due.is(name + ", seen " + i, got.get(i), want.get(i));
        }
    }

    /** All that an object answers, first what asks alone, then what changes it. */
    private static List<Integer> seen(OldBronze x) {
        List<Integer> all = new ArrayList<>();
        for (int what = 0; what <= 10; what++) {
            all.add(x.count(what));
        }
        for (int i = 0; i < x.count(9); i++) {
            all.add(x.body(i));
        }
        for (int what = 2; what <= 9; what++) {
            all.add(x.crucible(what));
        }
        things(x, all);
        for (int claim = 0; claim < x.count(2); claim++) {
            all.add(x.claimIs(claim, 0));
            all.add(x.claimIs(claim, 1));
            all.add(x.share(claim, 1));
        }
        for (int what = 0; what <= 4; what++) {
            all.add(x.fits(what));
        }
        sheets(x, all);
        all.add(x.check());
        all.add(x.text(0));
        all.add(x.count(0) > 0 ? x.thingIs(0, 10) : 0);
        all.add(x.restore());
        for (int what = 0; what <= 10; what++) {
            all.add(x.count(what));
        }
        all.add(x.image());
        return all;
    }

    private static void things(OldBronze x, List<Integer> all) {
        int history = (1 << x.count(3)) - 1;
        for (int thing = 0; thing < x.count(0); thing++) {
            for (int what = 0; what <= 10; what++) {
                all.add(x.thingIs(thing, what));
            }
            all.add(x.by(history, thing, 2));
            all.add(x.by(history, thing, 6));
            all.add(x.left(thing, 0));
        }
    }

    /** What SHEETS hold is told by the things that they judge, and by the papers they make. */
    private static void sheets(OldBronze x, List<Integer> all) {
        for (int sheet = 0; sheet < 4; sheet++) {
            all.add(x.judge(sheet, 0));
            x.forget(0);
            int came = x.papers(sheet);
            all.add(came);
            for (int thing = 0; came > 0 && thing < 5 && thing < x.count(0); thing++) {
                all.add(x.by((1 << came) - 1, thing, 2));
            }
            all.add(x.move(sheet, 0, sheet, 0, 3));
        }
    }
}
