import java.util.Arrays;

/** Plates of lamps whose buttons each change many of them; ../shared/DOC.md says what each call answers. */
public final class LampPlate {
    public static final int NONE = -1;
    public static final int SPENT = -2;

    private static final int MOST = 36;
    private static final int MOST_COLOURS = 12;
    private static final int MOST_COST = 1000;
    private static final int MOST_TIMES = 1000000;
    private static final int MOST_SEARCHED = 65536;
    /** More than any PUSHING costs. */
    private static final int ABOVE_ALL = MOST * MOST_COLOURS * MOST_COST;
    /** 8 is 2 * 2 * 2, and no number of colours has a prime more often. */
    private static final int MOST_OFTEN = 3;

    private static final int PLAIN = 0;
    private static final int CROSS = 1;
    private static final int LINE = 2;
    private static final int STUCK = 3;
    private static final int TWIN = 4;
    private static final int COLUMNS_FROM = 100;

    private static final int RIGHT = -1;
    private static final int UNKNOWN_WHAT = -2;
    private static final int NO_ROW = 100;
    private static final int WRONG_BUTTON = 200;
    private static final int WRONG_SUM = 300;

    private final Plate plate;
    private final Board board;
    private final History history;
    private final Told told;
    private final int[] list;
    private int listed;
    private Plate kept;
    private Solver solver;

    public LampPlate() {
        plate = new Plate();
        board = new Board();
        history = new History();
        told = new Told();
        list = new int[MOST];
    }

    public boolean plate(int lamps, int colours, int width) {
        if (lamps < 1 || lamps > MOST || colours < 2 || colours > MOST_COLOURS || width < 1 || width > lamps) {
            return false;
        }
        plate.makeNew(lamps, colours, width);
        forgetActs();
        return true;
    }

    public int button(int kind, int a, int b, int other) {
        if (plate.buttons >= MOST || !plate.takesButton(kind, a, b, other)) {
            return NONE;
        }
        beginAct(History.BUTTON, 0);
        return plate.addButton(kind, a, b, other);
    }

    public boolean board(int kind, int n) {
        if (kind == Board.MISSING) {
            board.lay(kind, 0);
            return true;
        }
        if (kind < Board.BYTES || kind > Board.LONGS || n < 0 || n > Board.MOST_ENTRIES) {
            return false;
        }
        board.lay(kind, n);
        return true;
    }

    public boolean entry(int i, long v) {
        if (i < 0 || i >= board.size) {
            return false;
        }
        board.write(i, v);
        return true;
    }

    public int wire(int button) {
        if (board.kind == Board.ABSENT || !plate.hasButton(button) || plate.kind[button] != PLAIN) {
            return NONE;
        }
        beginAct(History.WIRED, button);
        int count = plate.wireTo(button, board);
        board.lay(Board.ABSENT, 0);
        return count;
    }

    public int cost(int button, int v) {
        if (!plate.hasButton(button) || v < 0 || v > MOST_COST) {
            return NONE;
        }
        beginAct(History.PRICE, button);
        int old = plate.price[button];
        plate.price[button] = v;
        return old;
    }

    public int light(int lamp, int v) {
        if (!plate.hasLamp(lamp) || v < 0 || v >= plate.colours) {
            return NONE;
        }
        beginAct(History.SHOWN, 0);
        int old = plate.shown[lamp];
        plate.shown[lamp] = v;
        return old;
    }

    public int push(int button, int times) {
        if (!plate.hasButton(button) || plate.kind[button] == STUCK || times < 0 || times > MOST_TIMES) {
            return NONE;
        }
        beginAct(History.SHOWN, 0);
        return plate.pushOne(button, times);
    }

    public int chase() {
        if (!plate.isAllCrosses()) {
            return NONE;
        }
        beginAct(History.SHOWN, 0);
        return plate.chaseDown();
    }

    public int undo() {
        if (history.size == 0) {
            return NONE;
        }
        history.takeBack(plate);
        told.goesOn = false;
        return history.size;
    }

    public boolean keep() {
        if (kept == null) {
            kept = new Plate();
        }
        kept.copyFrom(plate);
        return true;
    }

    public boolean back() {
        if (kept == null) {
            return false;
        }
        plate.copyFrom(kept);
        forgetActs();
        return true;
    }

    public int count(int what) {
        switch (what) {
            case 0:
                return plate.lamps;
            case 1:
                return plate.colours;
            case 2:
                return plate.width;
            case 3:
                return plate.buttons;
            case 4:
                return history.size;
            case 5:
                return plate.countLit();
            case 6:
                return plate.sumShown();
            case 7:
                return board.kind == Board.ABSENT ? NONE : board.size;
            default:
                return NONE;
        }
    }

    public int shown(int lamp) {
        return plate.hasLamp(lamp) ? plate.shown[lamp] : NONE;
    }

    public int step(int button, int lamp) {
        return plate.hasButton(button) && plate.hasLamp(lamp) ? plate.stepAt(button, lamp) : NONE;
    }

    public int can() {
        Solver now = freshSolver();
        if (now.solve()) {
            now.tellPushing(told);
            told.goesOn = true;
            return 1;
        }
        now.tellWhy(told);
        return 0;
    }

    public int next() {
        if (!told.goesOn) {
            return NONE;
        }
        return freshSolver().goOn(told) ? 1 : 0;
    }

    public int row(int i) {
        return i >= 0 && i < told.size ? told.numbers[i] : NONE;
    }

    public int primes(int what, int prime) {
        if (prime != 2 && prime != 3 && prime != 5 && prime != 7 && prime != 11) {
            return NONE;
        }
        switch (what) {
            case 0:
                return freshSolver().primesOfPatterns(prime);
            case 1:
                return freshSolver().primesOfQuiet(prime);
            case 2:
                return freshSolver().primesOfAll(prime);
            case 3:
                return freshSolver().primesOfWeights(prime);
            default:
                return NONE;
        }
    }

    public int base(int what) {
        switch (what) {
            case 0:
                return freshSolver().countQuiet();
            case 1:
                return freshSolver().countWeights();
            default:
                return NONE;
        }
    }

    public int element(int what, int i) {
        if (i < 0 || (what != 0 && what != 1)) {
            return NONE;
        }
        Solver now = freshSolver();
        boolean found = what == 0 ? now.tellQuiet(i, told) : now.tellWeights(i, told);
        return found ? 1 : NONE;
    }

    public long least() {
        Solver now = freshSolver();
        if (!now.solve()) {
            return NONE;
        }
        return now.hasManyQuiet() ? SPENT : now.tellLeast(told);
    }

    public long worst() {
        Solver now = freshSolver();
        return now.hasManyPushings() ? SPENT : now.tellWorst(told);
    }

    public int apply() {
        if (told.kind != Told.PUSHING || !plate.isPushing(told.numbers, told.size)) {
            return NONE;
        }
        beginAct(History.SHOWN, 0);
        return plate.pushAll(told.numbers);
    }

    public int tell(int v) {
        if (listed >= MOST || v < 0 || v >= MOST_COLOURS) {
            return NONE;
        }
        list[listed] = v;
        listed++;
        return listed;
    }

    public int check(int what) {
        if (what != 0 && what != 1) {
            return UNKNOWN_WHAT;
        }
        int size = listed;
        listed = 0;
        int due = what == 0 ? plate.buttons : plate.lamps;
        if (size != due || !plate.allBelowColours(list, size)) {
            return NO_ROW;
        }
        return what == 0 ? checkPushing() : checkWeights();
    }

    private int checkPushing() {
        int stuck = plate.firstStuckPushed(list);
        if (stuck != NONE) {
            return WRONG_BUTTON + stuck;
        }
        for (int lamp = 0; lamp < plate.lamps; lamp++) {
            if (plate.patternAt(list, lamp) != plate.shown[lamp]) {
                return WRONG_SUM + lamp;
            }
        }
        return RIGHT;
    }

    private int checkWeights() {
        for (int button = 0; button < plate.buttons; button++) {
            if (plate.kind[button] != STUCK && plate.weighSteps(list, button) != 0) {
                return WRONG_BUTTON + button;
            }
        }
        return plate.weighShown(list, 0) == 0 ? WRONG_SUM : RIGHT;
    }

    /** To be called before an ACT changes anything, for undo() needs what was. */
    private void beginAct(int what, int button) {
        history.note(plate, what, button);
        told.goesOn = false;
    }

    private void forgetActs() {
        history.size = 0;
        told.goesOn = false;
    }

    /** Made when it is first asked, since its tables are by far the largest. */
    private Solver freshSolver() {
        if (solver == null) {
            solver = new Solver(plate);
        }
        solver.refresh();
        return solver;
    }

    /** The lamps, what they show, and the buttons. */
    private static final class Plate {
        int lamps = 1;
        int colours = 2;
        int width = 1;
        int buttons;
        /** Goes up whenever STEPS may have changed, so that a Solver sees that its tables are old. */
        int wirings;
        final int[] shown = new int[MOST];
        final int[] kind = new int[MOST];
        final int[] place = new int[MOST];
        final int[] add = new int[MOST];
        final int[] other = new int[MOST];
        final int[] price = new int[MOST];
        final int[] wired = new int[MOST * MOST];

        void makeNew(int newLamps, int newColours, int newWidth) {
            lamps = newLamps;
            colours = newColours;
            width = newWidth;
            buttons = 0;
            wirings++;
            Arrays.fill(shown, 0);
        }

        void copyFrom(Plate from) {
            lamps = from.lamps;
            colours = from.colours;
            width = from.width;
            buttons = from.buttons;
            wirings++;
            System.arraycopy(from.shown, 0, shown, 0, MOST);
            System.arraycopy(from.kind, 0, kind, 0, MOST);
            System.arraycopy(from.place, 0, place, 0, MOST);
            System.arraycopy(from.add, 0, add, 0, MOST);
            System.arraycopy(from.other, 0, other, 0, MOST);
            System.arraycopy(from.price, 0, price, 0, MOST);
            System.arraycopy(from.wired, 0, wired, 0, MOST * MOST);
        }

        boolean hasLamp(int lamp) {
            return lamp >= 0 && lamp < lamps;
        }

        boolean hasButton(int button) {
            return button >= 0 && button < buttons;
        }

        boolean takesButton(int newKind, int a, int b, int newOther) {
            if (newKind == PLAIN) {
                return true;
            }
            if (b < 0 || b >= colours) {
                return false;
            }
            switch (newKind) {
                case CROSS:
                    return hasLamp(a);
                case LINE:
                case STUCK:
                    return hasLine(a);
                case TWIN:
                    return hasLamp(a) && hasButton(newOther);
                default:
                    return false;
            }
        }

        boolean hasLine(int line) {
            int rows = (lamps + width - 1) / width;
            if (line >= COLUMNS_FROM) {
                return line - COLUMNS_FROM < width;
            }
            return line >= 0 && line < rows;
        }

        int addButton(int newKind, int a, int b, int newOther) {
            int button = buttons;
            kind[button] = newKind;
            place[button] = a;
            add[button] = b;
            other[button] = newOther;
            price[button] = 1;
            for (int lamp = 0; lamp < MOST; lamp++) {
                wired[button * MOST + lamp] = 0;
            }
            buttons++;
            wirings++;
            return button;
        }

        void removeLastButton() {
            if (buttons > 0) {
                buttons--;
                wirings++;
            }
        }

        int wireTo(int button, Board from) {
            int count = 0;
            for (int lamp = 0; lamp < lamps; lamp++) {
                int steps = from.stepsFor(lamp, colours);
                wired[button * MOST + lamp] = steps;
                if (steps != 0) {
                    count++;
                }
            }
            wirings++;
            return count;
        }

        int stepAt(int button, int lamp) {
            int sum = ownStepAt(button, lamp);
            if (kind[button] == TWIN && hasButton(other[button])) {
                sum += ownStepAt(other[button], lamp);
            }
            return sum % colours;
        }

        /** Of a TWIN the CROSS alone, which is also what another TWIN takes of it. */
        private int ownStepAt(int button, int lamp) {
            switch (kind[button]) {
                case PLAIN:
                    return wired[button * MOST + lamp];
                case LINE:
                case STUCK:
                    return isOnLine(place[button], lamp) ? add[button] : 0;
                default:
                    return isInCross(place[button], lamp) ? add[button] : 0;
            }
        }

        private boolean isOnLine(int line, int lamp) {
            if (line >= COLUMNS_FROM) {
                return lamp % width == line - COLUMNS_FROM;
            }
            return lamp / width == line;
        }

        private boolean isInCross(int centre, int lamp) {
            int down = Math.abs(lamp / width - centre / width);
            int aside = Math.abs(lamp % width - centre % width);
            return down + aside <= 1;
        }

        int pushOne(int button, int times) {
            int changed = 0;
            for (int lamp = 0; lamp < lamps; lamp++) {
                changed += turn(lamp, times % colours * stepAt(button, lamp));
            }
            return changed;
        }

        int pushAll(int[] times) {
            int changed = 0;
            for (int lamp = 0; lamp < lamps; lamp++) {
                changed += turn(lamp, patternAt(times, lamp));
            }
            return changed;
        }

        /** Answers 1 if the lamp shows another number then, else 0. */
        private int turn(int lamp, int by) {
            int old = shown[lamp];
            shown[lamp] = (old + by) % colours;
            return shown[lamp] == old ? 0 : 1;
        }

        boolean isAllCrosses() {
            if (buttons != lamps) {
                return false;
            }
            for (int button = 0; button < buttons; button++) {
                if (kind[button] != CROSS || place[button] != button || add[button] != 1) {
                    return false;
                }
            }
            return true;
        }

        int chaseDown() {
            int pushes = 0;
            for (int lamp = width; lamp < lamps; lamp++) {
                int above = shown[lamp - width];
                if (above != 0) {
                    pushOne(lamp, colours - above);
                    pushes += colours - above;
                }
            }
            return pushes;
        }

        int countLit() {
            int count = 0;
            for (int lamp = 0; lamp < lamps; lamp++) {
                if (shown[lamp] != 0) {
                    count++;
                }
            }
            return count;
        }

        int sumShown() {
            int sum = 0;
            for (int lamp = 0; lamp < lamps; lamp++) {
                sum += shown[lamp];
            }
            return sum;
        }

        boolean allBelowColours(int[] numbers, int size) {
            for (int i = 0; i < size && i < numbers.length; i++) {
                if (numbers[i] >= colours) {
                    return false;
                }
            }
            return true;
        }

        boolean isPushing(int[] times, int size) {
            return size == buttons && allBelowColours(times, size) && firstStuckPushed(times) == NONE;
        }

        int firstStuckPushed(int[] times) {
            for (int button = 0; button < buttons; button++) {
                if (kind[button] == STUCK && times[button] != 0) {
                    return button;
                }
            }
            return NONE;
        }

        int patternAt(int[] times, int lamp) {
            int sum = 0;
            for (int button = 0; button < buttons; button++) {
                if (times[button] != 0) {
                    sum += times[button] * stepAt(button, lamp);
                }
            }
            return sum % colours;
        }

        int weighSteps(int[] weights, int button) {
            int sum = 0;
            for (int lamp = 0; lamp < lamps; lamp++) {
                if (weights[lamp] != 0) {
                    sum += weights[lamp] * stepAt(button, lamp);
                }
            }
            return sum % colours;
        }

        /** The weights stand in the array from a place on. */
        int weighShown(int[] weights, int from) {
            int sum = 0;
            for (int lamp = 0; lamp < lamps; lamp++) {
                sum += weights[from + lamp] * shown[lamp];
            }
            return sum % colours;
        }
    }

    /** The row of entries that wire() takes, as it was written: the colours may change before it is used. */
    private static final class Board {
        static final int ABSENT = -1;
        static final int BYTES = 0;
        static final int SHORTS = 1;
        static final int INTS = 2;
        static final int LONGS = 3;
        static final int MISSING = 4;
        static final int MOST_ENTRIES = 80;

        int kind = ABSENT;
        int size;
        final long[] entries = new long[MOST_ENTRIES];

        void lay(int newKind, int newSize) {
            kind = newKind;
            size = newSize;
            Arrays.fill(entries, 0L);
        }

        void write(int i, long v) {
            switch (kind) {
                case BYTES:
                    entries[i] = (byte) v;
                    break;
                case SHORTS:
                    entries[i] = (short) v;
                    break;
                case INTS:
                    entries[i] = (int) v;
                    break;
                default:
                    entries[i] = v;
                    break;
            }
        }

        int stepsFor(int lamp, int colours) {
            switch (kind) {
                case BYTES:
                case SHORTS:
                    return lamp < size ? Math.floorMod((int) entries[lamp], colours) : 0;
                case INTS:
                    return bitFor(lamp, 32);
                case LONGS:
                    return bitFor(lamp, 64);
                default:
                    return 0;
            }
        }

        private int bitFor(int lamp, int bits) {
            int entry = lamp / bits;
            return entry < size ? (int) (entries[entry] >>> (lamp % bits)) & 1 : 0;
        }
    }

    /** A ring of the latest ACTS, each with what it is about to change. */
    private static final class History {
        static final int BUTTON = 0;
        static final int WIRED = 1;
        static final int PRICE = 2;
        static final int SHOWN = 3;
        private static final int DEPTH = 60;

        int size;
        private int free;
        private final int[] what = new int[DEPTH];
        private final int[] button = new int[DEPTH];
        private final int[] before = new int[DEPTH * MOST];

        void note(Plate plate, int newWhat, int newButton) {
            what[free] = newWhat;
            button[free] = newButton;
            if (newWhat == SHOWN) {
                System.arraycopy(plate.shown, 0, before, free * MOST, MOST);
            } else if (newWhat == WIRED) {
                System.arraycopy(plate.wired, newButton * MOST, before, free * MOST, MOST);
            } else if (newWhat == PRICE) {
                before[free * MOST] = plate.price[newButton];
            }
            free = (free + 1) % DEPTH;
            size = Math.min(size + 1, DEPTH);
        }

        void takeBack(Plate plate) {
            free = (free + DEPTH - 1) % DEPTH;
            size--;
            if (what[free] == SHOWN) {
                System.arraycopy(before, free * MOST, plate.shown, 0, MOST);
            } else if (what[free] == WIRED) {
                System.arraycopy(before, free * MOST, plate.wired, button[free] * MOST, MOST);
                plate.wirings++;
            } else if (what[free] == PRICE) {
                plate.price[button[free]] = before[free * MOST];
            } else {
                plate.removeLastButton();
            }
        }
    }

    /** The ROW. */
    private static final class Told {
        static final int NOTHING = 0;
        static final int PUSHING = 1;
        static final int BY_LAMPS = 2;

        int kind = NOTHING;
        int size;
        /** Whether next() may go on behind it. */
        boolean goesOn;
        final int[] numbers = new int[MOST];

        void begin(int newKind, int newSize) {
            kind = newKind;
            size = newSize;
            goesOn = false;
            Arrays.fill(numbers, 0);
        }
    }

    /**
     * Rows (a head and a tail) and all their sums by m, brought into Howell's form: for each column at most one row
     * that is 0 ahead of it; what stands there (its lead) divides m, and every sum that is 0 ahead of that column has
     * a multiple of the lead there. So the rows that lead in the tail are the sums whose heads are 0.
     */
    private static final class Form {
        private static final int WIDE = 2 * MOST;
        private static final int MOST_SWAPS = 12;

        int colours = 2;
        int heads;
        int wide;
        private int open;
        /** 0 where no row leads. */
        final int[] lead = new int[WIDE];
        final int[] rows = new int[WIDE * WIDE];
        /** The rows that lead nowhere yet. */
        final int[] work;
        /** By which number, that has an inverse by m, each number comes to a divisor of m. */
        private final int[] unit = new int[MOST_COLOURS];

        /** Forms that are built one after the other can have the same work, of MOST rows. */
        Form(int[] sharedWork) {
            work = sharedWork;
        }

        /** As many rows as the tail is long, with a single 1 in the tail each. */
        void begin(int newColours, int newHeads, int tails) {
            colours = newColours;
            heads = newHeads;
            wide = newHeads + tails;
            open = tails;
            Arrays.fill(work, 0);
            for (int r = 0; r < tails; r++) {
                work[r * WIDE + heads + r] = 1;
            }
            for (int v = 1; v < colours; v++) {
                unit[v] = unitFor(v, colours);
            }
        }

        private static int unitFor(int v, int m) {
            int aim = gcd(v, m);
            for (int u = 1; u < m; u++) {
                if (u * v % m == aim && gcd(u, m) == 1) {
                    return u;
                }
            }
            return 1;
        }

        private static int gcd(int v, int m) {
            for (int d = v; d > 1; d--) {
                if (v % d == 0 && m % d == 0) {
                    return d;
                }
            }
            return 1;
        }

        void putHead(int r, int column, int v) {
            work[r * WIDE + column] = v;
        }

        void build() {
            for (int column = 0; column < wide; column++) {
                int pivot = clearColumn(column);
                lead[column] = 0;
                if (pivot >= 0) {
                    settle(pivot, column);
                }
            }
            for (int column = heads; column < wide; column++) {
                if (lead[column] != 0) {
                    reduce(rows, column * WIDE, column + 1, wide);
                }
            }
        }

        /** Answers the one open row that is not 0 there then, or -1. */
        private int clearColumn(int column) {
            int pivot = -1;
            for (int r = 0; r < open; r++) {
                if (work[r * WIDE + column] == 0) {
                    continue;
                }
                if (pivot < 0) {
                    pivot = r;
                    multiply(r, column, unit[work[r * WIDE + column]]);
                } else {
                    pivot = clearOne(pivot, r, column);
                }
            }
            return pivot;
        }

        /** Euclid's way with two rows; the first pivot divides m, so the last one does. */
        private int clearOne(int pivot, int row, int column) {
            int upper = pivot;
            int lower = row;
            for (int turn = 0; turn < MOST_SWAPS && work[lower * WIDE + column] != 0; turn++) {
                int divisor = Math.max(1, work[upper * WIDE + column]);
                int times = work[lower * WIDE + column] / divisor;
                if (times != 0) {
                    addTimes(work, lower * WIDE, work, upper * WIDE, column, colours - times);
                }
                if (work[lower * WIDE + column] != 0) {
                    int swap = upper;
                    upper = lower;
                    lower = swap;
                }
            }
            return upper;
        }

        /** From a column on; answers whether all is 0 there then. */
        private boolean multiply(int r, int column, int by) {
            boolean nought = true;
            for (int i = r * WIDE + column; i < r * WIDE + wide; i++) {
                work[i] = work[i] * by % colours;
                nought = nought && work[i] == 0;
            }
            return nought;
        }

        /**
         * The row leads that column; what is left of it open is the multiple that is 0 there. Ahead of its column
         * nothing is ever written to a row, so it stays 0.
         */
        private void settle(int pivot, int column) {
            System.arraycopy(work, pivot * WIDE + column, rows, column * WIDE + column, wide - column);
            lead[column] = work[pivot * WIDE + column];
            int order = colours / Math.max(1, lead[column]);
            if (order == colours || multiply(pivot, column, order)) {
                open--;
                if (pivot != open) {
                    System.arraycopy(work, open * WIDE, work, pivot * WIDE, wide);
                }
            }
        }

        private void addTimes(int[] to, int toBase, int[] from, int fromBase, int column, int times) {
            for (int i = column; i < wide; i++) {
                int v = from[fromBase + i];
                if (v != 0) {
                    to[toBase + i] = (to[toBase + i] + times * v) % colours;
                }
            }
        }

        /** Each number at a leading column comes below that lead, in turn; the sums that are taken off are rows. */
        void reduce(int[] v, int base, int from, int to) {
            for (int column = from; column < to; column++) {
                int divisor = lead[column];
                if (divisor != 0 && v[base + column] >= divisor) {
                    int times = v[base + column] / divisor;
                    addTimes(v, base, rows, column * WIDE, column, colours - times);
                }
            }
        }

        /** Where the tail of the row that leads a column begins. */
        int tailOf(int column) {
            return column * WIDE + heads;
        }

        /** How many numbers the sums that are 0 ahead of a column have there. */
        int orderAt(int column) {
            return lead[column] == 0 ? 1 : colours / lead[column];
        }

        void addRow(int[] v, int column) {
            addTimes(v, 0, rows, column * WIDE, column, 1);
        }

        /** Answers whether the head is a sum of rows; then the tail is what is left when they are taken off. */
        boolean reduceHead(int[] v) {
            for (int column = 0; column < heads; column++) {
                if (v[column] != 0) {
                    reduce(v, 0, column, column + 1);
                    if (v[column] != 0) {
                        return false;
                    }
                }
            }
            return true;
        }

        /** The next tail by the less at its first column, of those with the same head; the last columns turn first. */
        boolean stepTail(int[] v) {
            for (int column = wide - 1; column >= heads; column--) {
                if (lead[column] != 0 && v[column] + lead[column] < colours) {
                    addRow(v, column);
                    reduce(v, 0, column + 1, wide);
                    return true;
                }
            }
            return false;
        }

        int countElements() {
            int count = 0;
            for (int column = heads; column < wide; column++) {
                if (lead[column] != 0) {
                    count++;
                }
            }
            return count;
        }

        /** The column that element i leads, or NONE. */
        int columnOfElement(int i) {
            int count = 0;
            for (int column = heads; column < wide; column++) {
                if (lead[column] != 0) {
                    if (count == i) {
                        return column;
                    }
                    count++;
                }
            }
            return NONE;
        }
    }

    /** What follows from the STEPS; its tables are made again only when those have changed. */
    private static final class Solver {
        private final Plate plate;
        private int stepsAt = -1;
        private int weightsAt = -1;
        /** Head: the pattern by lamps; tail: the pushing by free buttons. */
        private final Form quiet;
        private Form weights;
        private Search search;
        /** The buttons that can be pushed, from the last one on: so the first in ORDER has the less ahead. */
        private int free;
        private final int[] buttonOf = new int[MOST];
        private final int[] steps = new int[MOST * MOST];
        private final int[] vector = new int[Form.WIDE];

        Solver(Plate newPlate) {
            plate = newPlate;
            quiet = new Form(new int[MOST * Form.WIDE]);
        }

        void refresh() {
            if (stepsAt == plate.wirings) {
                return;
            }
            stepsAt = plate.wirings;
            free = 0;
            for (int button = plate.buttons - 1; button >= 0; button--) {
                if (plate.kind[button] != STUCK) {
                    buttonOf[free] = button;
                    free++;
                }
            }
            quiet.begin(plate.colours, plate.lamps, free);
            for (int r = 0; r < free; r++) {
                for (int lamp = 0; lamp < plate.lamps; lamp++) {
                    int v = plate.stepAt(buttonOf[r], lamp);
                    steps[r * MOST + lamp] = v;
                    quiet.putHead(r, lamp, v);
                }
            }
            quiet.build();
        }

        /** Head: by free buttons, what their STEPS come to; tail: the weights by lamps. Many runs never need it. */
        private Form freshWeights() {
            if (weights == null) {
                weights = new Form(quiet.work);
            }
            if (weightsAt != stepsAt) {
                weightsAt = stepsAt;
                weights.begin(plate.colours, free, plate.lamps);
                for (int lamp = 0; lamp < plate.lamps; lamp++) {
                    for (int r = 0; r < free; r++) {
                        weights.putHead(lamp, r, steps[r * MOST + lamp]);
                    }
                }
                weights.build();
            }
            return weights;
        }

        int countQuiet() {
            return quiet.countElements();
        }

        int countWeights() {
            return freshWeights().countElements();
        }

        /** Answers whether the pattern shown can be; then the vector's tail is the first pushing for it. */
        boolean solve() {
            Arrays.fill(vector, 0);
            // Of the pattern's negative, so that what is taken off leaves the pushing itself.
            for (int lamp = 0; lamp < plate.lamps; lamp++) {
                vector[lamp] = (plate.colours - plate.shown[lamp]) % plate.colours;
            }
            if (!quiet.reduceHead(vector)) {
                return false;
            }
            quiet.reduce(vector, 0, quiet.heads, quiet.wide);
            return true;
        }

        void tellPushing(Told told) {
            tellTail(vector, told);
        }

        private void tellTail(int[] from, Told told) {
            told.begin(Told.PUSHING, plate.buttons);
            for (int r = 0; r < free; r++) {
                told.numbers[buttonOf[r]] = from[plate.lamps + r];
            }
        }

        /** Answers whether there is a pushing behind the ROW. */
        boolean goOn(Told told) {
            for (int r = 0; r < free; r++) {
                vector[quiet.heads + r] = told.numbers[buttonOf[r]];
            }
            if (!quiet.stepTail(vector)) {
                return false;
            }
            tellPushing(told);
            told.goesOn = true;
            return true;
        }

        void tellWhy(Told told) {
            Form form = freshWeights();
            for (int column = form.heads; column < form.wide; column++) {
                int tail = form.tailOf(column);
                if (form.lead[column] != 0 && plate.weighShown(form.rows, tail) != 0) {
                    tellByLamps(form.rows, tail, told);
                    return;
                }
            }
        }

        private void tellByLamps(int[] from, int base, Told told) {
            told.begin(Told.BY_LAMPS, plate.lamps);
            System.arraycopy(from, base, told.numbers, 0, plate.lamps);
        }

        boolean tellQuiet(int i, Told told) {
            int column = quiet.columnOfElement(i);
            if (column == NONE) {
                return false;
            }
            System.arraycopy(quiet.rows, quiet.tailOf(column), vector, quiet.heads, free);
            tellPushing(told);
            return true;
        }

        boolean tellWeights(int i, Told told) {
            Form form = freshWeights();
            int column = form.columnOfElement(i);
            if (column == NONE) {
                return false;
            }
            tellByLamps(form.rows, form.tailOf(column), told);
            return true;
        }

        int primesOfAll(int prime) {
            return free * howOften(prime, plate.colours);
        }

        int primesOfQuiet(int prime) {
            int sum = 0;
            for (int column = quiet.heads; column < quiet.wide; column++) {
                sum += howOften(prime, quiet.orderAt(column));
            }
            return sum;
        }

        int primesOfPatterns(int prime) {
            return primesOfAll(prime) - primesOfQuiet(prime);
        }

        /** Patterns that can be and WEIGHTS are as many, multiplied, as all patterns. */
        int primesOfWeights(int prime) {
            return plate.lamps * howOften(prime, plate.colours) - primesOfPatterns(prime);
        }

        private static int howOften(int prime, int number) {
            int rest = number;
            int count = 0;
            while (count < MOST_OFTEN && rest % prime == 0) {
                rest /= prime;
                count++;
            }
            return count;
        }

        boolean hasManyQuiet() {
            int product = 1;
            for (int column = quiet.heads; column < quiet.wide && product <= MOST_SEARCHED; column++) {
                product *= quiet.orderAt(column);
            }
            return product > MOST_SEARCHED;
        }

        boolean hasManyPushings() {
            int product = 1;
            for (int r = 0; r < free && product <= MOST_SEARCHED; r++) {
                product *= plate.colours;
            }
            return product > MOST_SEARCHED;
        }

        private Search freshSearch() {
            if (search == null) {
                search = new Search(quiet, steps);
            }
            search.begin(plate.lamps);
            for (int r = 0; r < free; r++) {
                search.putPrice(r, plate.price[buttonOf[r]]);
            }
            return search;
        }

        /** Behind solve() alone, whose vector it goes on from. */
        int tellLeast(Told told) {
            Search now = freshSearch();
            int cost = now.findCheapestFor(vector);
            tellTail(now.found, told);
            return cost;
        }

        int tellWorst(Told told) {
            Search now = freshSearch();
            now.findHardest();
            tellByLamps(now.hardest, 0, told);
            return now.greatest;
        }
    }

    /** Goes through the tails that differ by QUIET ones, in ORDER, and leaves out what can't be cheaper. */
    private static final class Search {
        private final Form form;
        /** By tail columns and lamps. */
        private final int[] steps;
        private int lamps;
        private int levels;
        private final int[] columnOf = new int[MOST];
        private final int[] price = new int[Form.WIDE];
        private final int[] vector = new int[Form.WIDE];
        private int best;
        /** The cheapest tail of those seen. */
        final int[] found = new int[Form.WIDE];
        private final int[] picked = new int[Form.WIDE];
        int greatest;
        /** The pattern whose least COST is the greatest. */
        final int[] hardest = new int[MOST];

        Search(Form quiet, int[] stepsOfTails) {
            form = quiet;
            steps = stepsOfTails;
        }

        /** To be called when the form, the lamps or the prices may have changed. */
        void begin(int newLamps) {
            lamps = newLamps;
            levels = 0;
            greatest = NONE;
            for (int column = form.heads; column < form.wide; column++) {
                if (form.lead[column] != 0) {
                    columnOf[levels] = column;
                    levels++;
                }
            }
        }

        void putPrice(int r, int v) {
            price[form.heads + r] = v;
        }

        /** Of those that differ from the tail by QUIET ones; what is spent ahead of the first level is told. */
        private int findCheapest(int[] tail, int spent) {
            System.arraycopy(tail, form.heads, vector, form.heads, form.wide - form.heads);
            best = ABOVE_ALL;
            explore(this, 0, spent);
            return best;
        }

        int findCheapestFor(int[] first) {
            return findCheapest(first, costOf(first, form.heads, endOf(-1)));
        }

        /** Up to which column the numbers are settled when those of a level are. */
        private int endOf(int level) {
            return level + 1 < levels ? columnOf[level + 1] : form.wide;
        }

        private int costOf(int[] tail, int from, int to) {
            int sum = 0;
            for (int column = from; column < to; column++) {
                sum += tail[column] * price[column];
            }
            return sum;
        }

        /** Rows of deeper levels change nothing ahead of their own columns, so what is spent there stays. */
        private static void explore(Search s, int level, int spent) {
            if (level >= s.levels) {
                s.takeFound(spent);
                return;
            }
            int column = s.columnOf[level];
            int end = s.endOf(level);
            int lead = Math.max(1, s.form.lead[column]);
            s.form.reduce(s.vector, 0, column, column + 1);
            for (int v = s.vector[column]; v < s.form.colours; v += lead) {
                if (spent + v * s.price[column] >= s.best) {
                    return;
                }
                int sum = spent + s.costOf(s.vector, column, end);
                if (sum < s.best) {
                    explore(s, level + 1, sum);
                }
                s.form.addRow(s.vector, column);
            }
        }

        private void takeFound(int spent) {
            if (spent >= best) {
                return;
            }
            // Below the greatest least COST a pattern is out, and 0 ends its search.
            best = spent < greatest ? 0 : spent;
            System.arraycopy(vector, form.heads, found, form.heads, form.wide - form.heads);
        }

        void findHardest() {
            pickFrom(this, form.heads, 0);
        }

        /** Every pattern that can be is that of just one tail whose numbers are below the leads. */
        private static void pickFrom(Search s, int column, int spent) {
            if (column >= s.form.wide) {
                s.takePicked(s.findCheapest(s.picked, spent));
                return;
            }
            int end = s.form.lead[column] == 0 ? s.form.colours : s.form.lead[column];
            int each = column < s.endOf(-1) ? s.price[column] : 0;
            for (int v = 0; v < end; v++) {
                s.picked[column] = v;
                pickFrom(s, column + 1, spent + v * each);
            }
        }

        private void takePicked(int cost) {
            if (cost > greatest || (cost == greatest && isPickedAhead())) {
                greatest = cost;
                for (int lamp = 0; lamp < lamps; lamp++) {
                    hardest[lamp] = pickedAt(lamp);
                }
            }
        }

        private boolean isPickedAhead() {
            for (int lamp = 0; lamp < lamps; lamp++) {
                int v = pickedAt(lamp);
                if (v != hardest[lamp]) {
                    return v < hardest[lamp];
                }
            }
            return false;
        }

        private int pickedAt(int lamp) {
            int sum = 0;
            for (int column = form.heads; column < form.wide; column++) {
                sum += picked[column] * steps[(column - form.heads) * MOST + lamp];
            }
            return sum % form.colours;
        }
    }
}
