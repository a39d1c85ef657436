/** Promises 27 and 28: voices and the trace. */
public final class VoicesTest {
    private static final Due due = new Due();

    public static void main(String[] args) {
        for (int kind = 0; kind < 7; kind++) {
            for (int x : new int[] {0, 7, -7, 1000, Integer.MAX_VALUE, Integer.MIN_VALUE}) {
                voices(kind, x);
            }
        }
        traces();
        parted();
        errors();
        changes();
        due.end();
    }

    private static class Thing {
        final int k;
        final int m;

        Thing(int k, int m) {
            this.k = k;
            this.m = m;
        }

        int rings(int x) {
            return x + k;
        }

        int weighs(int x) {
            return rings(x) * 2;
        }

        int melts(int x) {
            return weighs(x) - m;
        }

        int parts(int x) {
            return x / (m - k);
        }
    }

    private static class Bell extends Thing {
        Bell(int k, int m) {
            super(k, m);
        }

        @Override
        int rings(int x) {
            return super.rings(x) - 4;
        }

        @Override
        int parts(int x) {
            return super.parts(x) + weighs(1);
        }
    }

    private static class Gun extends Thing {
        Gun(int k, int m) {
            super(k, m);
        }

        @Override
        int weighs(int x) {
            return 0 - super.weighs(x);
        }
    }

    private static class Pot extends Thing {
        Pot(int k, int m) {
            super(k, m);
        }

        @Override
        int melts(int x) {
            return super.melts(x / 2);
        }
    }

    private static final class Chime extends Bell {
        Chime(int k, int m) {
            super(k, m);
        }

        @Override
        int rings(int x) {
            return super.rings(x) * 3;
        }

        @Override
        int melts(int x) {
            return super.melts(x) ^ k;
        }
    }

    private static final class Howitzer extends Gun {
        Howitzer(int k, int m) {
            super(k, m);
        }

        @Override
        int weighs(int x) {
            return super.weighs(x + 1);
        }
    }

    private static final class Scrap extends Pot {
        Scrap(int k, int m) {
            super(k, m);
        }

        @Override
        int rings(int x) {
            return 6;
        }

        @Override
        int weighs(int x) {
            return super.weighs(x) + m;
        }
    }

    private static Thing made(int kind, int k, int m) {
        switch (kind) {
            case 0:
                return new Thing(k, m);
            case 1:
                return new Bell(k, m);
            case 2:
                return new Gun(k, m);
            case 3:
                return new Pot(k, m);
            case 4:
                return new Chime(k, m);
            case 5:
                return new Howitzer(k, m);
            default:
                return new Scrap(k, m);
        }
    }

    private static void voices(int kind, int v) {
        OldBronze x = new OldBronze();
        x.thing(9, 1);
        x.thing(9, 1);
        for (int k = 2; k < 5; k++) {
            int m = k == 3 ? 2 : 40 + k;
            x.thing(100 * kind + m, 1);
            Thing thing = made(kind, k, m);
            String of = " of kind " + kind + " thing " + k + " by " + v;
            due.is("rings" + of, x.voice(k, 0, v), thing.rings(v));
            due.is("weighs" + of, x.voice(k, 1, v), thing.weighs(v));
            due.is("melts" + of, x.voice(k, 2, v), thing.melts(v));
            due.is("parts" + of, x.voice(k, 3, v), thing.parts(v));
        }
    }

    private static void trace(int kind, int voice, int... bodies) {
        OldBronze x = new OldBronze();
        x.thing(100 * kind + 50, 1);
        x.voice(0, voice, 12);
        due.is("bodies of " + kind + ", " + voice, x.count(9), bodies.length);
        for (int i = 0; i < bodies.length; i++) {
            due.is("body " + i + " of " + kind + ", " + voice, x.body(i), bodies[i]);
        }
        due.is("one more body", x.body(bodies.length), Due.NONE);
        due.is("body -1", x.body(-1), Due.NONE);
    }

    private static void traces() {
        trace(0, 0, 10);
        trace(0, 1, 11, 10);
        trace(0, 2, 12, 11, 10);
        trace(0, 3, 13);
        trace(1, 0, 20, 10);
        trace(1, 1, 11, 20, 10);
        trace(1, 2, 12, 11, 20, 10);
        trace(1, 3, 21, 13, 11, 20, 10);
        trace(2, 0, 10);
        trace(2, 1, 30, 11, 10);
        trace(2, 2, 12, 30, 11, 10);
        trace(2, 3, 13);
        trace(3, 0, 10);
        trace(3, 1, 11, 10);
        trace(3, 2, 40, 12, 11, 10);
        trace(3, 3, 13);
        trace(4, 0, 50, 20, 10);
        trace(4, 1, 11, 50, 20, 10);
        trace(4, 2, 51, 12, 11, 50, 20, 10);
        trace(4, 3, 21, 13, 11, 50, 20, 10);
        trace(5, 0, 10);
        trace(5, 1, 60, 30, 11, 10);
        trace(5, 2, 12, 60, 30, 11, 10);
        trace(5, 3, 13);
        trace(6, 0, 70);
        trace(6, 1, 71, 11, 70);
        trace(6, 2, 40, 12, 71, 11, 70);
        trace(6, 3, 13);
    }

    private static void parted() {
        OldBronze x = new OldBronze();
        x.thing(0, 1);
        x.thing(401, 1);
        due.is("x by 0", x.voice(0, 3, 5), Due.PARTED);
        due.is("0 by 0", x.voice(0, 3, 0), Due.PARTED);
        due.is("one body", x.count(9), 1);
        due.is("which is", x.body(0), 13);
        due.is("nothing is added", x.voice(1, 3, 5), Due.PARTED);
        int[] bodies = {21, 13, 11, 50, 20, 10};
        due.is("all bodies", x.count(9), bodies.length);
        for (int i = 0; i < bodies.length; i++) {
            due.is("body " + i, x.body(i), bodies[i]);
        }
        due.is("told", x.told(6), 3);
        due.is("the next one isn't", x.voice(0, 0, 5), 5);
    }

    private static void errors() {
        OldBronze x = new OldBronze();
        x.thing(100, 1);
        x.voice(0, 0, 1);
        due.is("thing 1", x.voice(1, 0, 0), Due.BEYOND);
        due.is("thing -1", x.voice(-1, 0, 0), Due.BEYOND);
        due.is("voice 4", x.voice(0, 4, 0), Due.BEYOND);
        due.is("voice -1", x.voice(0, -1, 0), Due.BEYOND);
        due.is("the trace stays", x.count(9), 2);
        due.is("body 0", x.body(0), 20);
        due.is("great i", x.body(Integer.MAX_VALUE), Due.NONE);
        due.is("least i", x.body(Integer.MIN_VALUE), Due.NONE);
        due.is("an answer like an ERROR", x.voice(0, 0, -999999997), Due.BEYOND);
        due.is("told none of it", x.told(1), 4);
    }

    private static void changes() {
        OldBronze x = new OldBronze();
        x.thing(3, 1);
        x.set(0, 0, 6);
        x.set(0, 1, 8);
        due.is("as its kind and m are now", x.voice(0, 1, 0), 20);
    }
}
