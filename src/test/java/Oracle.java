import java.util.ArrayDeque;
import java.util.ArrayList;
import java.util.List;

/** The document, done the slow way: every pushing and every row of weights is gone through. For small plates alone. */
final class Oracle {
    static final class Button {
        int kind;
        int a;
        int b;
        int other;
        int cost = 1;
        int[] plain;

        Button copy() {
            Button c = new Button();
            c.kind = kind;
            c.a = a;
            c.b = b;
            c.other = other;
            c.cost = cost;
            c.plain = plain.clone();
            return c;
        }
    }

    static final class State {
        int n = 1;
        int m = 2;
        int w = 1;
        int[] shown = new int[1];
        List<Button> buttons = new ArrayList<>();

        State copy() {
            State c = new State();
            c.n = n;
            c.m = m;
            c.w = w;
            c.shown = shown.clone();
            for (Button b : buttons) {
                c.buttons.add(b.copy());
            }
            return c;
        }

        int free() {
            int f = 0;
            for (Button b : buttons) {
                f += b.kind == 3 ? 0 : 1;
            }
            return f;
        }
    }

    State s = new State();
    private State kept;
    private final ArrayDeque<State> past = new ArrayDeque<>();
    private int boardKind = -1;
    private long[] board = new long[0];
    int[] row;
    private boolean rowIsPushing;
    private boolean nextIsFine;
    private List<Integer> list = new ArrayList<>();

    // --- steps

    private void addCross(int[] to, int a, int b) {
        int r = a / s.w;
        int c = a % s.w;
        int[][] places = {{r, c}, {r - 1, c}, {r + 1, c}, {r, c - 1}, {r, c + 1}};
        for (int[] p : places) {
            if (p[0] >= 0 && p[1] >= 0 && p[1] < s.w && p[0] * s.w + p[1] < s.n) {
                to[p[0] * s.w + p[1]] += b;
            }
        }
    }

    private void addOwn(int[] to, Button b) {
        if (b.kind == 0) {
            for (int i = 0; i < s.n; i++) {
                to[i] += b.plain[i];
            }
        } else if (b.kind == 1 || b.kind == 4) {
            addCross(to, b.a, b.b);
        } else if (b.a >= 100) {
            for (int i = b.a - 100; i < s.n; i += s.w) {
                to[i] += b.b;
            }
        } else {
            for (int i = b.a * s.w; i < Math.min(s.n, (b.a + 1) * s.w); i++) {
                to[i] += b.b;
            }
        }
    }

    int[] steps(int k) {
        Button b = s.buttons.get(k);
        int[] sum = new int[s.n];
        addOwn(sum, b);
        if (b.kind == 4) {
            addOwn(sum, s.buttons.get(b.other));
        }
        for (int i = 0; i < s.n; i++) {
            sum[i] = Math.floorMod(sum[i], s.m);
        }
        return sum;
    }

    private int[][] allSteps() {
        int[][] all = new int[s.buttons.size()][];
        for (int k = 0; k < all.length; k++) {
            all[k] = steps(k);
        }
        return all;
    }

    private int[] pattern(int[] pushing, int[][] steps) {
        int[] p = new int[s.n];
        for (int k = 0; k < pushing.length; k++) {
            for (int i = 0; i < s.n && pushing[k] != 0; i++) {
                p[i] = (p[i] + pushing[k] * steps[k][i]) % s.m;
            }
        }
        return p;
    }

    private long cost(int[] pushing) {
        long sum = 0;
        for (int k = 0; k < pushing.length; k++) {
            sum += (long) pushing[k] * s.buttons.get(k).cost;
        }
        return sum;
    }

    // --- all pushings in ORDER, all weights by the less at the first lamp

    private boolean stuck(int k) {
        return s.buttons.get(k).kind == 3;
    }

    private boolean turnPushing(int[] x) {
        for (int k = 0; k < x.length; k++) {
            if (!stuck(k)) {
                if (x[k] + 1 < s.m) {
                    x[k]++;
                    return true;
                }
                x[k] = 0;
            }
        }
        return false;
    }

    private boolean turnWeights(int[] x) {
        for (int i = x.length - 1; i >= 0; i--) {
            if (x[i] + 1 < s.m) {
                x[i]++;
                return true;
            }
            x[i] = 0;
        }
        return false;
    }

    private List<int[]> pushingsFor(int[] wanted) {
        List<int[]> found = new ArrayList<>();
        int[][] steps = allSteps();
        int[] x = new int[s.buttons.size()];
        do {
            if (java.util.Arrays.equals(pattern(x, steps), wanted)) {
                found.add(x.clone());
            }
        } while (turnPushing(x));
        return found;
    }

    private List<int[]> allWeights() {
        List<int[]> found = new ArrayList<>();
        int[][] steps = allSteps();
        int[] x = new int[s.n];
        do {
            boolean fine = true;
            for (int k = 0; k < steps.length && fine; k++) {
                fine = stuck(k) || weigh(x, steps[k]) == 0;
            }
            if (fine) {
                found.add(x.clone());
            }
        } while (turnWeights(x));
        return found;
    }

    private int weigh(int[] weights, int[] pattern) {
        int sum = 0;
        for (int i = 0; i < s.n; i++) {
            sum += weights[i] * pattern[i];
        }
        return sum % s.m;
    }

    /** The rows come in the order in which, of two with alike numbers at k, the earlier one is due. */
    private List<int[]> baseOf(List<int[]> rows, int length, boolean fromTheLast) {
        List<int[]> base = new ArrayList<>();
        for (int turn = 0; turn < length; turn++) {
            int k = fromTheLast ? length - 1 - turn : turn;
            int[] best = null;
            for (int[] x : rows) {
                boolean fine = x[k] != 0;
                for (int j = 0; j < length && fine; j++) {
                    boolean before = fromTheLast ? j > k : j < k;
                    fine = !before || x[j] == 0;
                }
                if (fine && (best == null || x[k] < best[k])) {
                    best = x;
                }
            }
            if (best != null) {
                base.add(best);
            }
        }
        return base;
    }

    private List<int[]> base0() {
        return baseOf(pushingsFor(new int[s.n]), s.buttons.size(), true);
    }

    private List<int[]> base1() {
        return baseOf(allWeights(), s.n, false);
    }

    // --- the calls

    private void act() {
        past.addLast(s.copy());
        if (past.size() > 60) {
            past.removeFirst();
        }
        nextIsFine = false;
    }

    private boolean isButton(int k) {
        return k >= 0 && k < s.buttons.size();
    }

    private boolean isLamp(int i) {
        return i >= 0 && i < s.n;
    }

    long plate(int n, int m, int w) {
        if (n < 1 || n > 36 || m < 2 || m > 12 || w < 1 || w > n) {
            return 0;
        }
        s = new State();
        s.n = n;
        s.m = m;
        s.w = w;
        s.shown = new int[n];
        past.clear();
        nextIsFine = false;
        return 1;
    }

    long button(int kind, int a, int b, int other) {
        boolean bad = kind < 0 || kind > 4 || s.buttons.size() >= 36;
        if (kind != 0) {
            bad |= b < 0 || b >= s.m;
            if (kind == 1 || kind == 4) {
                bad |= !isLamp(a);
            } else {
                bad |= a < 0 || (a < 100 ? a * s.w >= s.n : a - 100 >= s.w);
            }
            bad |= kind == 4 && !isButton(other);
        }
        if (bad) {
            return -1;
        }
        act();
        Button x = new Button();
        x.kind = kind;
        x.a = a;
        x.b = b;
        x.other = other;
        x.plain = new int[s.n];
        s.buttons.add(x);
        return s.buttons.size() - 1;
    }

    long board(int kind, int n) {
        if (kind < 0 || kind > 4 || (kind < 4 && (n < 0 || n > 80))) {
            return 0;
        }
        boardKind = kind;
        board = new long[kind == 4 ? 0 : n];
        return 1;
    }

    long entry(int i, long v) {
        if (boardKind < 0 || boardKind == 4 || i < 0 || i >= board.length) {
            return 0;
        }
        board[i] = boardKind == 0 ? (byte) v : boardKind == 1 ? (short) v : boardKind == 2 ? (int) v : v;
        return 1;
    }

    long wire(int k) {
        if (boardKind < 0 || !isButton(k) || s.buttons.get(k).kind != 0) {
            return -1;
        }
        act();
        int count = 0;
        int[] plain = new int[s.n];
        for (int i = 0; i < s.n; i++) {
            if (boardKind < 2 && i < board.length) {
                plain[i] = (int) (((board[i] % s.m) + s.m) % s.m);
            } else if (boardKind == 2 && i / 32 < board.length) {
                plain[i] = ((int) board[i / 32] & (1 << (i % 32))) != 0 ? 1 : 0;
            } else if (boardKind == 3 && i / 64 < board.length) {
                plain[i] = (board[i / 64] & (1L << (i % 64))) != 0 ? 1 : 0;
            }
            count += plain[i] != 0 ? 1 : 0;
        }
        s.buttons.get(k).plain = plain;
        boardKind = -1;
        board = new long[0];
        return count;
    }

    long cost(int k, int v) {
        if (!isButton(k) || v < 0 || v > 1000) {
            return -1;
        }
        act();
        int old = s.buttons.get(k).cost;
        s.buttons.get(k).cost = v;
        return old;
    }

    long light(int i, int v) {
        if (!isLamp(i) || v < 0 || v >= s.m) {
            return -1;
        }
        act();
        int old = s.shown[i];
        s.shown[i] = v;
        return old;
    }

    private void pushTimes(int k, long times) {
        int[] steps = steps(k);
        for (int i = 0; i < s.n; i++) {
            s.shown[i] = (int) ((s.shown[i] + times * steps[i]) % s.m);
        }
    }

    private int changedSince(int[] old) {
        int count = 0;
        for (int i = 0; i < s.n; i++) {
            count += old[i] != s.shown[i] ? 1 : 0;
        }
        return count;
    }

    long push(int k, int times) {
        if (!isButton(k) || stuck(k) || times < 0 || times > 1000000) {
            return -1;
        }
        act();
        int[] old = s.shown.clone();
        pushTimes(k, times);
        return changedSince(old);
    }

    long chase() {
        boolean fine = s.buttons.size() == s.n;
        for (int k = 0; k < s.n && fine; k++) {
            Button b = s.buttons.get(k);
            fine = b.kind == 1 && b.a == k && b.b == 1;
        }
        if (!fine) {
            return -1;
        }
        act();
        int pushes = 0;
        for (int i = s.w; i < s.n; i++) {
            while (s.shown[i - s.w] != 0) {
                pushTimes(i, 1);
                pushes++;
            }
        }
        return pushes;
    }

    long undo() {
        if (past.isEmpty()) {
            return -1;
        }
        s = past.removeLast();
        nextIsFine = false;
        return past.size();
    }

    long keep() {
        kept = s.copy();
        return 1;
    }

    long back() {
        if (kept == null) {
            return 0;
        }
        s = kept.copy();
        past.clear();
        nextIsFine = false;
        return 1;
    }

    long count(int what) {
        int lit = 0;
        int sum = 0;
        for (int v : s.shown) {
            lit += v != 0 ? 1 : 0;
            sum += v;
        }
        int[] all = {s.n, s.m, s.w, s.buttons.size(), past.size(), lit, sum, boardKind < 0 ? -1 : board.length};
        return what < 0 || what >= all.length ? -1 : all[what];
    }

    long shown(int i) {
        return isLamp(i) ? s.shown[i] : -1;
    }

    long step(int k, int i) {
        return isButton(k) && isLamp(i) ? steps(k)[i] : -1;
    }

    private void tellRow(int[] numbers, boolean pushing) {
        row = numbers.clone();
        rowIsPushing = pushing;
        nextIsFine = false;
    }

    long can() {
        List<int[]> all = pushingsFor(s.shown);
        if (!all.isEmpty()) {
            tellRow(all.get(0), true);
            nextIsFine = true;
            return 1;
        }
        for (int[] x : base1()) {
            if (weigh(x, s.shown) != 0) {
                tellRow(x, false);
                return 0;
            }
        }
        throw new IllegalStateException("no reason why");
    }

    long next() {
        if (!nextIsFine) {
            return -1;
        }
        List<int[]> all = pushingsFor(s.shown);
        for (int i = 0; i < all.size(); i++) {
            if (java.util.Arrays.equals(all.get(i), row)) {
                if (i + 1 == all.size()) {
                    return 0;
                }
                row = all.get(i + 1).clone();
                return 1;
            }
        }
        throw new IllegalStateException("the row is no pushing");
    }

    long row(int i) {
        return row == null || i < 0 || i >= row.length ? -1 : row[i];
    }

    private long often(long number, int prime) {
        long count = 0;
        while (number % prime == 0) {
            number /= prime;
            count++;
        }
        return count;
    }

    long primes(int what, int prime) {
        if (what < 0 || what > 3 || !List.of(2, 3, 5, 7, 11).contains(prime)) {
            return -1;
        }
        long all = 1;
        for (int k = 0; k < s.free(); k++) {
            all *= s.m;
        }
        if (what == 2) {
            return often(all, prime);
        }
        if (what == 3) {
            return often(allWeights().size(), prime);
        }
        return what == 1 ? often(pushingsFor(new int[s.n]).size(), prime) : often(leastOfAll().size(), prime);
    }

    long base(int what) {
        return what == 0 ? base0().size() : what == 1 ? base1().size() : -1;
    }

    long element(int what, int i) {
        if (what != 0 && what != 1) {
            return -1;
        }
        List<int[]> base = what == 0 ? base0() : base1();
        if (i < 0 || i >= base.size()) {
            return -1;
        }
        tellRow(base.get(i), what == 0);
        return 1;
    }

    long least() {
        List<int[]> all = pushingsFor(s.shown);
        if (all.isEmpty()) {
            return -1;
        }
        int[] best = all.get(0);
        for (int[] x : all) {
            if (cost(x) < cost(best)) {
                best = x;
            }
        }
        tellRow(best, true);
        return cost(best);
    }

    /** The least cost of each pattern that can be; a pattern's key goes up as the pattern does. */
    private java.util.TreeMap<Long, Long> leastOfAll() {
        java.util.TreeMap<Long, Long> least = new java.util.TreeMap<>();
        int[][] steps = allSteps();
        int[] x = new int[s.buttons.size()];
        do {
            long key = 0;
            for (int v : pattern(x, steps)) {
                key = key * s.m + v;
            }
            least.merge(key, cost(x), Math::min);
        } while (turnPushing(x));
        return least;
    }

    long worst() {
        long greatest = -1;
        long key = 0;
        for (java.util.Map.Entry<Long, Long> e : leastOfAll().entrySet()) {
            if (e.getValue() > greatest) {
                greatest = e.getValue();
                key = e.getKey();
            }
        }
        int[] pattern = new int[s.n];
        for (int i = s.n - 1; i >= 0; i--) {
            pattern[i] = (int) (key % s.m);
            key /= s.m;
        }
        tellRow(pattern, false);
        return greatest;
    }

    long apply() {
        boolean fine = row != null && rowIsPushing && row.length == s.buttons.size();
        for (int k = 0; fine && k < row.length; k++) {
            fine = row[k] < s.m && (!stuck(k) || row[k] == 0);
        }
        if (!fine) {
            return -1;
        }
        act();
        int[] old = s.shown.clone();
        for (int k = 0; k < row.length; k++) {
            pushTimes(k, row[k]);
        }
        return changedSince(old);
    }

    long tell(int v) {
        if (list.size() == 36 || v < 0 || v > 11) {
            return -1;
        }
        list.add(v);
        return list.size();
    }

    long check(int what) {
        if (what != 0 && what != 1) {
            return -2;
        }
        List<Integer> told = list;
        list = new ArrayList<>();
        if (told.size() != (what == 0 ? s.buttons.size() : s.n)) {
            return 100;
        }
        int[] x = new int[told.size()];
        for (int i = 0; i < x.length; i++) {
            x[i] = told.get(i);
            if (x[i] >= s.m) {
                return 100;
            }
        }
        int[][] steps = allSteps();
        if (what == 1) {
            for (int k = 0; k < steps.length; k++) {
                if (!stuck(k) && weigh(x, steps[k]) != 0) {
                    return 200 + k;
                }
            }
            return weigh(x, s.shown) == 0 ? 300 : -1;
        }
        for (int k = 0; k < x.length; k++) {
            if (stuck(k) && x[k] != 0) {
                return 200 + k;
            }
        }
        int[] p = pattern(x, steps);
        for (int i = 0; i < s.n; i++) {
            if (p[i] != s.shown[i]) {
                return 300 + i;
            }
        }
        return -1;
    }
}
