import java.util.Random;

/** Runs of calls drawn by a fixed seed on small plates, each answer against the Oracle's. */
public final class RandomRunsTest {
    private static final int RUNS = 1500;
    private static final int CALLS = 512;
    private static final int MOST_ROWS = 1300;
    private static final long[] ODD_LONGS = {0, 1, -1, 127, 128, 255, -129, 32768, -32769, 1L << 31, 1L << 35,
        Long.MIN_VALUE, Long.MAX_VALUE, 0x5555555555555555L};
    private static final int[] ODD_INTS = {-1, -2, 36, 37, 99, 100, 1001, Integer.MIN_VALUE, Integer.MAX_VALUE};

    private final Random random;
    private final LampPlate x = new LampPlate();
    private final Oracle o = new Oracle();
    private final StringBuilder log = new StringBuilder();
    /** In half of the runs plates stay for long, so that more ACTS come than can be taken back. */
    private final boolean stays;
    private int wrong;

    private RandomRunsTest(long seed) {
        random = new Random(seed);
        stays = seed % 2 == 0;
    }

    public static void main(String[] args) {
        int wrong = 0;
        for (int run = 0; run < RUNS && wrong < 3; run++) {
            RandomRunsTest test = new RandomRunsTest(run);
            test.run();
            if (test.wrong > 0) {
                wrong++;
                System.out.println("run " + run + ":\n" + test.log);
            }
        }
        System.out.println(wrong == 0 ? "all answers are as due" : wrong + " runs have a wrong answer");
        if (wrong != 0) {
            System.exit(1);
        }
    }

    private void run() {
        for (int call = 0; call < CALLS && wrong == 0; call++) {
            if (call == 0 || random.nextInt(stays ? 2000 : 80) == 0) {
                plate();
                continue;
            }
            int kind = random.nextInt(100);
            if (kind < 22) {
                build();
            } else if (kind < 45) {
                change();
            } else if (kind < 60) {
                look();
            } else {
                ask();
            }
            sameRow();
        }
    }

    private void due(String call, long got, long want) {
        log.append(call).append(" = ").append(got).append('\n');
        if (got != want) {
            wrong++;
            log.append("   due is ").append(want).append('\n');
        }
    }

    private void sameRow() {
        for (int i = -1; i <= 37; i++) {
            if (x.row(i) != o.row(i)) {
                due("row(" + i + ")", x.row(i), o.row(i));
            }
        }
    }

    private int below(int n) {
        return n > 0 ? random.nextInt(n) : 0;
    }

    /** Mostly below n, now and then another number. */
    private int about(int n) {
        return random.nextInt(14) == 0 ? ODD_INTS[random.nextInt(ODD_INTS.length)] : below(n + (random.nextInt(9) == 0 ? 2 : 0));
    }

    private void plate() {
        int m = 2 + below(11);
        int most = 0;
        for (int rows = 1; rows * m <= MOST_ROWS; rows *= m) {
            most++;
        }
        int n = 1 + below(most);
        int w = 1 + below(n);
        if (random.nextInt(8) == 0) {
            w = about(n);
        }
        due("plate(" + n + ", " + m + ", " + w + ")", x.plate(n, m, w) ? 1 : 0, o.plate(n, m, w));
    }

    private boolean roomForFree() {
        int rows = o.s.m;
        for (int k = 0; k < o.s.free(); k++) {
            rows *= o.s.m;
        }
        return rows <= MOST_ROWS;
    }

    private void build() {
        int which = random.nextInt(10);
        if (which < 5) {
            int kind = roomForFree() ? about(5) : 3;
            int a = random.nextInt(3) == 0 ? 100 + about(o.s.w) : about(o.s.n);
            int b = about(o.s.m);
            int other = about(o.s.buttons.size());
            if (kind != 3 && kind >= 0 && kind <= 4 && !roomForFree()) {
                return;
            }
            due("button(" + kind + ", " + a + ", " + b + ", " + other + ")", x.button(kind, a, b, other), o.button(kind, a, b, other));
        } else if (which < 7) {
            int kind = about(5);
            int n = random.nextInt(6) == 0 ? about(82) : about(o.s.n + 1);
            due("board(" + kind + ", " + n + ")", x.board(kind, n) ? 1 : 0, o.board(kind, n));
            for (int i = 0; i < Math.min(6, o.count(7)); i++) {
                long v = random.nextBoolean() ? random.nextLong() : ODD_LONGS[random.nextInt(ODD_LONGS.length)];
                due("entry(" + i + ", " + v + ")", x.entry(i, v) ? 1 : 0, o.entry(i, v));
            }
        } else if (which < 8) {
            int i = about((int) o.count(7));
            long v = random.nextInt(40) - 20;
            due("entry(" + i + ", " + v + ")", x.entry(i, v) ? 1 : 0, o.entry(i, v));
        } else {
            int k = about(o.s.buttons.size());
            due("wire(" + k + ")", x.wire(k), o.wire(k));
        }
    }

    private void change() {
        int k = about(o.s.buttons.size());
        switch (random.nextInt(12)) {
            case 0:
            case 1: {
                int v = random.nextBoolean() ? about(4) : about(1001);
                due("cost(" + k + ", " + v + ")", x.cost(k, v), o.cost(k, v));
                break;
            }
            case 2:
            case 3:
            case 4: {
                int i = about(o.s.n);
                int v = about(o.s.m);
                due("light(" + i + ", " + v + ")", x.light(i, v), o.light(i, v));
                break;
            }
            case 5:
            case 6: {
                int times = random.nextBoolean() ? about(20) : about(1000001);
                due("push(" + k + ", " + times + ")", x.push(k, times), o.push(k, times));
                break;
            }
            case 7:
                makeCrosses();
                due("chase()", x.chase(), o.chase());
                break;
            case 8:
            case 9:
                due("undo()", x.undo(), o.undo());
                break;
            case 10:
                due("keep()", x.keep() ? 1 : 0, o.keep());
                break;
            default:
                if (random.nextInt(stays ? 60 : 3) == 0) {
                    due("back()", x.back() ? 1 : 0, o.back());
                } else {
                    due("apply()", x.apply(), o.apply());
                }
                break;
        }
    }

    private void makeCrosses() {
        if (stays || random.nextInt(4) != 0) {
            return;
        }
        while (o.undo() >= 0) {
            x.undo();
        }
        for (int i = (int) o.count(3); i < o.s.n && roomForFree(); i++) {
            due("button(1, " + i + ", 1, 0)", x.button(1, i, 1, 0), o.button(1, i, 1, 0));
            int v = below(o.s.m);
            due("light(" + i + ", " + v + ")", x.light(i, v), o.light(i, v));
        }
    }

    private void look() {
        switch (random.nextInt(4)) {
            case 0:
                for (int what = -1; what < 9; what++) {
                    due("count(" + what + ")", x.count(what), o.count(what));
                }
                break;
            case 1:
                for (int i = -1; i <= o.s.n; i++) {
                    due("shown(" + i + ")", x.shown(i), o.shown(i));
                }
                break;
            case 2:
                for (int k = -1; k <= o.s.buttons.size(); k++) {
                    int i = about(o.s.n);
                    due("step(" + k + ", " + i + ")", x.step(k, i), o.step(k, i));
                }
                break;
            default:
                tellAndCheck();
                break;
        }
    }

    private void tellAndCheck() {
        boolean fromRow = o.row != null && random.nextBoolean();
        int size = fromRow ? o.row.length : random.nextInt(30) == 0 ? 38 : random.nextBoolean() ? o.s.buttons.size() : o.s.n;
        for (int i = 0; i < size; i++) {
            int v = fromRow ? o.row[i] : about(o.s.m);
            due("tell(" + v + ")", x.tell(v), o.tell(v));
        }
        int what = about(2);
        due("check(" + what + ")", x.check(what), o.check(what));
    }

    private void ask() {
        switch (random.nextInt(12)) {
            case 0:
            case 1:
            case 2:
                due("can()", x.can(), o.can());
                break;
            case 3:
            case 4:
            case 5:
                due("next()", x.next(), o.next());
                break;
            case 6: {
                int what = about(4);
                int prime = about(13);
                due("primes(" + what + ", " + prime + ")", x.primes(what, prime), o.primes(what, prime));
                break;
            }
            case 7: {
                int what = about(2);
                due("base(" + what + ")", x.base(what), o.base(what));
                break;
            }
            case 8:
            case 9: {
                int what = about(2);
                int i = about(4);
                due("element(" + what + ", " + i + ")", x.element(what, i), o.element(what, i));
                break;
            }
            case 10:
                due("least()", x.least(), o.least());
                break;
            default:
                due("worst()", x.worst(), o.worst());
                break;
        }
    }
}
