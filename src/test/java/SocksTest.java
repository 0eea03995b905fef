/** Promises 38 to 40, 46 and 47 as to bodies: body, act, trace, taken, count. */
final class SocksTest {
    // The document's KINDS as real Java classes, with the numbers of the bodies written down as they begin.
    private static final StringBuilder LOG = new StringBuilder();

    interface Runs {
        int n();

        default int runs(int x) {
            LOG.append(" 1");
            return x + n();
        }
    }

    interface Tells {
        int tints(int x);

        int dries(int x);

        default int tells(int x) {
            LOG.append(" 2");
            return tints(x) - dries(1);
        }
    }

    static class Sock implements Runs, Tells {
        int number;

        @Override
        public int n() {
            return number;
        }

        @Override
        public int tints(int x) {
            LOG.append(" 10");
            return runs(x) * 2;
        }

        @Override
        public int dries(int x) {
            LOG.append(" 11");
            return x ^ number;
        }
    }

    static class Shirt extends Sock {
        @Override
        public int runs(int x) {
            LOG.append(" 20");
            return super.runs(x) + 3;
        }
    }

    static class Wool extends Sock {
        @Override
        public int tints(int x) {
            LOG.append(" 30");
            return -super.tints(x);
        }
    }

    static class Jeans extends Wool {
        @Override
        public int dries(int x) {
            LOG.append(" 40");
            return super.dries(x) * 3;
        }

        @Override
        public int tints(int x) {
            LOG.append(" 41");
            return super.tints(x + 1);
        }
    }

    static class Towel extends Shirt {
        @Override
        public int tells(int x) {
            LOG.append(" 50");
            return super.tells(x) ^ 5;
        }
    }

    static class Label extends Jeans {
        @Override
        public int dries(int x) {
            LOG.append(" 60");
            return super.dries(x) - runs(2);
        }

        @Override
        public int tells(int x) {
            LOG.append(" 61");
            return super.tells(x) + 1;
        }
    }

    static class Cloth extends Sock {
        @Override
        public int runs(int x) {
            LOG.append(" 70");
            return super.runs(x) * 2;
        }
    }

    static class Pink extends Cloth {
        @Override
        public int tints(int x) {
            LOG.append(" 80");
            return super.tints(x) + dries(2);
        }

        @Override
        public int runs(int x) {
            LOG.append(" 81");
            return super.runs(x) - 1;
        }
    }

    public static void main(String[] args) {
        body();
        act();
        noSuchAct();
        taken();
        Due.end();
    }

    private static Sock made(int kind, int number) {
        Sock[] kinds = {new Sock(), new Shirt(), new Wool(), new Jeans(), new Towel(), new Label(), new Cloth(),
            new Pink()};
        kinds[kind].number = number;
        return kinds[kind];
    }

    private static void body() {
        WithTheReds w = new WithTheReds();
        Due.is("kind -1", w.body(-1), -1);
        Due.is("kind 8", w.body(8), -1);
        for (int i = 0; i < 50; i++) {
            Due.is("body " + i, w.body(i % 8), i);
        }
        Due.is("one more", w.body(0), -3);
        Due.is("BAD ahead of FULL", w.body(8), -1);
        Due.is("fifty", w.count(4), 50);
    }

    private static int due(Sock sock, int act, int x) {
        LOG.setLength(0);
        switch (act) {
            case 0:
                return sock.runs(x);
            case 1:
                return sock.tints(x);
            case 2:
                return sock.dries(x);
            default:
                return sock.tells(x);
        }
    }

    private static void act() {
        int[] xs = {0, 1, -1, 5, 1000000007, Integer.MAX_VALUE, Integer.MIN_VALUE};
        for (int number = 0; number < 50; number++) {
            int kind = number * 3 % 8;
            WithTheReds w = new WithTheReds();
            for (int i = 0; i <= number; i++) {
                w.body(kind);
            }
            Sock sock = made(kind, number);
            for (int act = 0; act < 4; act++) {
                for (int x : xs) {
                    String said = "act " + act + " of kind " + kind + " with " + x;
                    Due.is(said, w.act(number, act, x), due(sock, act, x));
                    trace(said, w);
                }
            }
        }
    }

    private static void trace(String said, WithTheReds w) {
        String[] log = LOG.toString().trim().split(" ");
        Due.is(said + " ran", w.count(5), log.length);
        for (int i = 0; i < log.length; i++) {
            Due.is(said + " trace " + i, w.trace(i), Integer.parseInt(log[i]));
        }
        Due.is(said + " trace behind the last", w.trace(log.length), -1);
        Due.is(said + " trace -1", w.trace(-1), -1);
    }

    private static void noSuchAct() {
        WithTheReds w = new WithTheReds();
        w.body(7);
        int[][] wrong = {{1, 0}, {-1, 0}, {0, 4}, {0, -1}, {50, 0}, {Integer.MIN_VALUE, Integer.MAX_VALUE}};
        for (int[] call : wrong) {
            w.act(0, 3, 1);
            Due.is("it ran", w.count(5), 8);
            Due.is("no such body, act", w.act(call[0], call[1], 9), 0);
            Due.is("none ran", w.count(5), 0);
            Due.is("no trace", w.trace(0), -1);
        }
    }

    private static void taken() {
        WithTheReds w = new WithTheReds();
        int[] above = {-1, 0, 0, 2, 1, 3, 0, 6};
        for (int kind = 0; kind < 8; kind++) {
            w.body(kind);
            w.keep(kind % 6, kind);
            for (int k = 0; k < 8; k++) {
                boolean under = false;
                for (int at = kind; at >= 0; at = above[at]) {
                    under |= at == k;
                }
                Due.is("kind " + kind + " for " + k, w.taken(kind % 6, k), under ? kind : -12);
            }
            Due.is("k -1", w.taken(kind % 6, -1), -1);
            Due.is("k 8", w.taken(kind % 6, 8), -1);
        }
        w.keep(0, -1);
        Due.is("nothing", w.taken(0, 0), -11);
        Due.is("BAD ahead of nothing", w.taken(0, 8), -1);
        w.row(0, 3, 2);
        Due.is("a row", w.taken(0, 0), -12);
        Due.is("shelf -1", w.taken(-1, 0), -1);
        Due.is("shelf 6", w.taken(6, 0), -1);
    }
}
