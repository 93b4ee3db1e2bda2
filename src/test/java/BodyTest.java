import java.util.ArrayList;
import java.util.List;

/** Promises 35 to 37: bodies, their acts and the trace, against the document's kinds as Java's own classes. */
public final class BodyTest {
    private static final Due DUE = new Due("BodyTest");
    static final List<Integer> RAN = new ArrayList<>();

    interface Falls {
        int number();

        default int falls(int x) {
            RAN.add(1);
            return x + number();
        }
    }

    interface Tells {
        int wishes(int x);

        int owes(int x);

        default int tells(int x) {
            RAN.add(2);
            return wishes(x) - owes(1);
        }
    }

    static class Star implements Falls, Tells {
        int n;

        @Override
        public int number() {
            return n;
        }

        @Override
        public int wishes(int x) {
            RAN.add(10);
            return falls(x) * 2;
        }

        @Override
        public int owes(int x) {
            RAN.add(11);
            return x ^ n;
        }
    }

    static class Nail extends Star {
        @Override
        public int falls(int x) {
            RAN.add(20);
            return super.falls(x) + 3;
        }
    }

    static class Hinge extends Star {
        @Override
        public int wishes(int x) {
            RAN.add(30);
            return -super.wishes(x);
        }
    }

    static class Spoon extends Hinge {
        @Override
        public int owes(int x) {
            RAN.add(40);
            return super.owes(x) * 3;
        }

        @Override
        public int wishes(int x) {
            RAN.add(41);
            return super.wishes(x + 1);
        }
    }

    static class Cry extends Nail {
        @Override
        public int tells(int x) {
            RAN.add(50);
            return super.tells(x) ^ 5;
        }
    }

    static class Hedge extends Spoon {
        @Override
        public int owes(int x) {
            RAN.add(60);
            return super.owes(x) - falls(2);
        }

        @Override
        public int tells(int x) {
            RAN.add(61);
            return super.tells(x) + 1;
        }
    }

    static class Pawn extends Star {
        @Override
        public int falls(int x) {
            RAN.add(70);
            return super.falls(x) * 2;
        }
    }

    static class Nothing extends Pawn {
        @Override
        public int wishes(int x) {
            RAN.add(80);
            return super.wishes(x) + owes(2);
        }

        @Override
        public int falls(int x) {
            RAN.add(81);
            return super.falls(x) - 1;
        }
    }

    static Star made(int kind, int n) {
        Star star = switch (kind) {
            case 0 -> new Star();
            case 1 -> new Nail();
            case 2 -> new Hinge();
            case 3 -> new Spoon();
            case 4 -> new Cry();
            case 5 -> new Hedge();
            case 6 -> new Pawn();
            default -> new Nothing();
        };
        star.n = n;
        return star;
    }

    static int acted(Star star, int act, int x) {
        return switch (act) {
            case 0 -> star.falls(x);
            case 1 -> star.wishes(x);
            case 2 -> star.owes(x);
            default -> star.tells(x);
        };
    }

    public static void main(String[] args) {
        bodies();
        acts();
        noSuch();
        DUE.end();
    }

    private static void bodies() {
        FellInField x = new FellInField();
        DUE.is("body(-1)", x.body(-1), -1);
        DUE.is("body(8)", x.body(8), -1);
        for (int n = 0; n < 50; n++) {
            DUE.is("body", x.body(n % 8), n);
        }
        DUE.is("FULL", x.body(0), -3);
        DUE.is("BAD ahead of FULL", x.body(8), -1);
        DUE.is("bodies", x.count(5), 50);
    }

    private static void acts() {
        for (int n = 0; n < 50; n++) {
            for (int act = 0; act < 4; act++) {
                actsOf(n, act);
            }
        }
    }

    private static void actsOf(int n, int act) {
        int[] xs = {0, 1, -1, 5, 100, Integer.MAX_VALUE, Integer.MIN_VALUE, 0x5a5a5a5a, -77};
        FellInField x = new FellInField();
        for (int body = 0; body < 50; body++) {
            x.body((body * 3 + body / 8) % 8);
        }
        Star star = made((n * 3 + n / 8) % 8, n);
        for (int with : xs) {
            RAN.clear();
            int want = acted(star, act, with);
            DUE.is("act(" + n + ", " + act + ", " + with + ")", x.act(n, act, with), want);
            DUE.is("ran", x.count(6), RAN.size());
            for (int i = 0; i < RAN.size(); i++) {
                DUE.is("trace", x.trace(i), i < 24 ? RAN.get(i) : -1);
            }
            DUE.is("trace behind", x.trace(RAN.size()), -1);
        }
        DUE.is("trace(-1)", x.trace(-1), -1);
    }

    private static void noSuch() {
        int[][] wrong = {{1, 0}, {-1, 0}, {0, 4}, {0, -1}, {50, 0}, {Integer.MAX_VALUE, Integer.MIN_VALUE}};
        FellInField x = new FellInField();
        x.body(0);
        for (int[] w : wrong) {
            x.act(0, 3, 5);
            DUE.is("ran", x.count(6), 4);
            DUE.is("no such", x.act(w[0], w[1], 5), 0);
            DUE.is("no trace then", x.count(6), 0);
            DUE.is("no trace then", x.trace(0), -1);
        }
    }
}
