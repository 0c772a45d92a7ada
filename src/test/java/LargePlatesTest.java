import java.util.Arrays;
import java.util.HashMap;
import java.util.Map;
import java.util.Random;

/**
 * Plates up to the largest, by what must hold of the answers: how many quiet pushings and weights there are is counted
 * another way (pivots of least power of each prime), and bases whose leads make up those numbers are whole.
 */
public final class LargePlatesTest {
    private static final int[] PRIMES = {2, 3, 5, 7, 11};
    private static final Checks c = new Checks();

    private final Random random;
    private LampPlate x;
    private int n;
    private int m;
    private int k;
    private boolean[] stuck;
    private int[][] steps;

    private LargePlatesTest(long seed) {
        random = new Random(seed);
    }

    public static void main(String[] args) {
        for (int seed = 0; seed < 400; seed++) {
            c.part("seed " + seed);
            LargePlatesTest test = new LargePlatesTest(seed);
            test.make(1 + test.random.nextInt(36), 2 + seed % 11, test.random.nextInt(37), test.random.nextInt(4));
            test.numbers();
            test.quietBase();
            test.weightsBase();
            for (int turn = 0; turn < 6; turn++) {
                test.showSomething();
                test.solution();
            }
            test.allInOrder();
        }
        for (int seed = 0; seed < 12; seed++) {
            c.part("least, seed " + seed);
            new LargePlatesTest(seed).cheapest();
            c.part("worst, seed " + seed);
            new LargePlatesTest(seed).hardest();
        }
        c.end();
    }

    /** Buttons of all kinds; by wildness, of PLAIN ones, from few steps to all, and multiples of divisors of m. */
    private void make(int lamps, int colours, int buttons, int wildness) {
        x = new LampPlate();
        n = lamps;
        m = colours;
        k = buttons;
        int w = 1 + random.nextInt(n);
        c.due("plate", x.plate(n, m, w), true);
        stuck = new boolean[k];
        steps = new int[k][n];
        for (int b = 0; b < k; b++) {
            int kind = wildness == 0 ? 1 : random.nextInt(5);
            if (kind == 4 && b == 0) {
                kind = 1;
            }
            int a = kind == 2 || kind == 3 ? (random.nextBoolean() ? 100 + random.nextInt(w) : random.nextInt((n + w - 1) / w)) : random.nextInt(n);
            c.due("button", x.button(kind, a, wildness == 0 ? 1 : random.nextInt(m), b == 0 ? 0 : random.nextInt(b)), b);
            stuck[b] = kind == 3;
            if (kind == 0) {
                wirePlain(b, wildness);
            }
        }
        for (int b = 0; b < k; b++) {
            for (int i = 0; i < n; i++) {
                steps[b][i] = x.step(b, i);
            }
        }
    }

    private void wirePlain(int b, int wildness) {
        x.board(1, n);
        int by = wildness == 3 ? 1 + random.nextInt(m) : 1;
        for (int i = 0; i < n; i++) {
            x.entry(i, random.nextInt(4) < wildness ? by * random.nextInt(m) : 0);
        }
        x.wire(b);
    }

    private int often(int number, int prime) {
        int count = 0;
        for (int rest = number; rest % prime == 0; rest /= prime) {
            count++;
        }
        return count;
    }

    private int free() {
        int f = 0;
        for (boolean s : stuck) {
            f += s ? 0 : 1;
        }
        return f;
    }

    /** How often the prime is in the number of patterns: each pivot, of the least power of it, takes its own power off. */
    private int imagePower(int prime) {
        int e = often(m, prime);
        int q = (int) Math.round(Math.pow(prime, e));
        int[][] a = new int[k][n];
        for (int b = 0; b < k; b++) {
            for (int i = 0; i < n; i++) {
                a[b][i] = stuck[b] ? 0 : steps[b][i] % q;
            }
        }
        int power = 0;
        for (int turn = 0; turn < Math.min(k, n); turn++) {
            int best = e;
            int br = -1;
            int bc = -1;
            for (int r = turn; r < k; r++) {
                for (int i = turn; i < n; i++) {
                    if (a[r][i] != 0 && often(a[r][i], prime) < best) {
                        best = often(a[r][i], prime);
                        br = r;
                        bc = i;
                    }
                }
            }
            if (br < 0) {
                break;
            }
            power += e - best;
            clear(a, turn, br, bc, q);
        }
        return power;
    }

    private void clear(int[][] a, int turn, int br, int bc, int q) {
        int[] swap = a[turn];
        a[turn] = a[br];
        a[br] = swap;
        for (int r = 0; r < k; r++) {
            int v = a[r][turn];
            a[r][turn] = a[r][bc];
            a[r][bc] = v;
        }
        for (int r = turn + 1; r < k; r++) {
            int by = 0;
            while ((a[r][turn] + by * a[turn][turn]) % q != 0) {
                by++;
            }
            for (int i = turn; i < n; i++) {
                a[r][i] = (a[r][i] + by * a[turn][i]) % q;
            }
        }
    }

    private void numbers() {
        for (int prime : PRIMES) {
            int e = often(m, prime);
            int image = e == 0 ? 0 : imagePower(prime);
            c.due("primes(0, " + prime + ")", x.primes(0, prime), image);
            c.due("primes(1, " + prime + ")", x.primes(1, prime), free() * e - image);
            c.due("primes(2, " + prime + ")", x.primes(2, prime), free() * e);
            c.due("primes(3, " + prime + ")", x.primes(3, prime), n * e - image);
        }
    }

    private int[] told(int size) {
        int[] row = new int[size];
        for (int i = 0; i < size; i++) {
            row[i] = x.row(i);
        }
        c.due("row behind", x.row(size), -1);
        return row;
    }

    private int[][] base(int what, int size) {
        int[][] base = new int[x.base(what)][];
        for (int i = 0; i < base.length; i++) {
            c.due("element", x.element(what, i), 1);
            base[i] = told(size);
        }
        c.due("element behind", x.element(what, base.length), -1);
        return base;
    }

    private int[] reversed(int[] row) {
        int[] r = new int[row.length];
        for (int i = 0; i < r.length; i++) {
            r[i] = row[r.length - 1 - i];
        }
        return r;
    }

    /** Leads go on, divide m and make up the whole number; behind them nothing can be less. */
    private void baseIsWhole(int[][] base, int size, int what) {
        int[] lead = new int[size];
        int last = -1;
        int[] powers = new int[PRIMES.length];
        for (int[] row : base) {
            int at = 0;
            while (at < size && row[at] == 0) {
                at++;
            }
            c.due("leads go on", at > last && at < size, true);
            if (at >= size) {
                return;
            }
            c.due("a lead divides m", m % row[at], 0);
            lead[at] = row[at];
            last = at;
            for (int p = 0; p < PRIMES.length; p++) {
                powers[p] += often(m / row[at], PRIMES[p]);
            }
        }
        for (int p = 0; p < PRIMES.length; p++) {
            c.due("base " + what + " makes up all", powers[p], x.primes(what == 0 ? 1 : 3, PRIMES[p]));
        }
        for (int[] row : base) {
            boolean led = false;
            for (int i = 0; i < size; i++) {
                c.due("none is less", !led || lead[i] == 0 || row[i] < lead[i], true);
                led |= row[i] != 0;
            }
        }
    }

    private void quietBase() {
        int[][] base = base(0, k);
        for (int i = 0; i < base.length; i++) {
            c.due("quiet", Arrays.equals(pattern(base[i]), new int[n]), true);
            for (int b = 0; b < k; b++) {
                c.due("a stuck one's", !stuck[b] || base[i][b] == 0, true);
            }
            base[i] = reversed(base[i]);
        }
        baseIsWhole(base, k, 0);
    }

    private void weightsBase() {
        int[][] base = base(1, n);
        for (int[] row : base) {
            for (int b = 0; b < k; b++) {
                int sum = 0;
                for (int i = 0; i < n; i++) {
                    sum += row[i] * steps[b][i];
                }
                c.due("weights", stuck[b] || sum % m == 0, true);
            }
        }
        baseIsWhole(base, n, 1);
    }

    private int[] pattern(int[] pushing) {
        int[] p = new int[n];
        for (int b = 0; b < k; b++) {
            for (int i = 0; i < n; i++) {
                p[i] = (p[i] + pushing[b] * steps[b][i]) % m;
            }
        }
        return p;
    }

    private void showSomething() {
        if (random.nextInt(3) == 0) {
            x.light(random.nextInt(n), random.nextInt(m));
            return;
        }
        int[] pushing = new int[k];
        for (int b = 0; b < k; b++) {
            pushing[b] = stuck[b] ? 0 : random.nextInt(m);
        }
        int[] p = pattern(pushing);
        for (int i = 0; i < n; i++) {
            x.light(i, p[i]);
        }
    }

    private int checkTold(int what, int size) {
        for (int i = 0; i < size; i++) {
            x.tell(x.row(i));
        }
        return x.check(what);
    }

    private void solution() {
        if (x.can() == 0) {
            c.due("why", checkTold(1, n), -1);
            return;
        }
        int[] first = told(k);
        c.due("a pushing", checkTold(0, k), -1);
        for (int[] quiet : base(0, k)) {
            int lead = k - 1;
            while (lead > 0 && quiet[lead] == 0) {
                lead--;
            }
            c.due("the first", first[lead] < quiet[lead], true);
        }
    }

    private boolean isAhead(int[] a, int[] b) {
        for (int i = k - 1; i >= 0; i--) {
            if (a[i] != b[i]) {
                return a[i] < b[i];
            }
        }
        return false;
    }

    private void allInOrder() {
        long all = 1;
        for (int prime : PRIMES) {
            all *= (long) Math.min(1e9, Math.pow(prime, x.primes(1, prime)));
        }
        if (all > 400 || x.can() != 1) {
            return;
        }
        int[] before = told(k);
        for (int turn = 1; turn < all; turn++) {
            c.due("next()", x.next(), 1);
            int[] now = told(k);
            c.due("in order", isAhead(before, now), true);
            c.due("a pushing", checkTold(0, k), -1);
            before = now;
        }
        c.due("next()", x.next(), 0);
        c.due("stays", Arrays.equals(before, told(k)), true);
    }

    private long cost(int[] pushing, int[] price) {
        long sum = 0;
        for (int b = 0; b < k; b++) {
            sum += (long) pushing[b] * price[b];
        }
        return sum;
    }

    /** Some 4 * 2^14 or 3^10 quiet ones: all are gone through by next(). */
    private void cheapest() {
        int[][] sizes = {{20, 2, 36}, {5, 4, 13}, {4, 3, 14}, {3, 6, 9}, {2, 12, 6}, {20, 2, 34}};
        int[] size = sizes[random.nextInt(sizes.length)];
        int[] price = new int[36];
        do {
            make(size[0], size[1], size[2], 3);
            for (int b = 0; b < k; b++) {
                price[b] = random.nextInt(4) == 0 ? 0 : random.nextInt(1 + random.nextInt(1001));
                x.cost(b, price[b]);
            }
            showSomething();
        } while (x.can() == 0 || x.least() == LampPlate.SPENT);
        x.can();
        int[] best = told(k);
        while (x.next() == 1) {
            int[] now = told(k);
            if (cost(now, price) < cost(best, price)) {
                best = now;
            }
        }
        c.due("least()", x.least(), cost(best, price));
        c.due("the first such one", Arrays.equals(best, told(k)), true);
    }

    private void hardest() {
        int[][] sizes = {{36, 2, 16}, {9, 2, 16}, {6, 4, 8}, {4, 3, 10}, {12, 6, 6}, {5, 12, 4}, {3, 10, 4}};
        int[] size = sizes[random.nextInt(sizes.length)];
        int[] price = new int[36];
        do {
            make(size[0], size[1], size[2], 1 + random.nextInt(3));
        } while (free() < k - 2);
        for (int b = 0; b < k; b++) {
            price[b] = random.nextInt(3) == 0 ? 0 : random.nextInt(5);
            x.cost(b, price[b]);
        }
        Map<String, Long> least = new HashMap<>();
        int[] pushing = new int[k];
        do {
            int[] p = pattern(pushing);
            char[] key = new char[n];
            for (int i = 0; i < n; i++) {
                key[i] = (char) p[i];
            }
            least.merge(new String(key), cost(pushing, price), Math::min);
        } while (turn(pushing));
        long greatest = -1;
        String first = "";
        for (Map.Entry<String, Long> e : least.entrySet()) {
            if (e.getValue() > greatest || (e.getValue() == greatest && e.getKey().compareTo(first) < 0)) {
                greatest = e.getValue();
                first = e.getKey();
            }
        }
        c.due("worst()", x.worst(), greatest);
        for (int i = 0; i < n; i++) {
            c.due("row(" + i + ")", x.row(i), first.charAt(i));
        }
    }

    private boolean turn(int[] pushing) {
        for (int b = 0; b < k; b++) {
            if (!stuck[b]) {
                if (pushing[b] + 1 < m) {
                    pushing[b]++;
                    return true;
                }
                pushing[b] = 0;
            }
        }
        return false;
    }
}
