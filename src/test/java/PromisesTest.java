/** Each promise of the document by its number: ordinary inputs, the edges that it names, wrong inputs. */
public final class PromisesTest {
    private static final int MIN = Integer.MIN_VALUE;
    private static final int MAX = Integer.MAX_VALUE;
    private static final Checks c = new Checks();

    public static void main(String[] args) {
        newObject();
        plate();
        button();
        steps();
        twins();
        board();
        entry();
        wire();
        cost();
        light();
        push();
        chase();
        undo();
        undoOfEachAct();
        keepAndBack();
        count();
        shownAndStep();
        can();
        why();
        next();
        nextIsRefused();
        row();
        primes();
        base();
        element();
        least();
        worst();
        apply();
        tell();
        checkPushing();
        checkWeights();
        c.end();
    }

    private static LampPlate made(int lamps, int colours, int width) {
        LampPlate x = new LampPlate();
        c.due("plate(" + lamps + ", " + colours + ", " + width + ")", x.plate(lamps, colours, width), true);
        return x;
    }

    private static LampPlate crosses(int lamps, int colours, int width) {
        LampPlate x = made(lamps, colours, width);
        for (int i = 0; i < lamps; i++) {
            c.due("button(1, " + i + ", 1, 0)", x.button(1, i, 1, 0), i);
        }
        return x;
    }

    /** A PLAIN button with these steps. */
    private static int plain(LampPlate x, int... steps) {
        int k = x.button(0, 0, 0, 0);
        rewire(x, k, steps);
        return k;
    }

    private static void rewire(LampPlate x, int k, int... steps) {
        x.board(0, steps.length);
        for (int i = 0; i < steps.length; i++) {
            x.entry(i, steps[i]);
        }
        x.wire(k);
    }

    private static void lightAll(LampPlate x, int... v) {
        for (int i = 0; i < v.length; i++) {
            x.light(i, v[i]);
        }
    }

    private static void tellAll(LampPlate x, int... v) {
        for (int i = 0; i < v.length; i++) {
            c.due("tell(" + v[i] + ")", x.tell(v[i]), i + 1);
        }
    }

    private static void newObject() {
        c.part("1 new object");
        LampPlate x = new LampPlate();
        int[] want = {1, 2, 1, 0, 0, 0, 0, -1};
        for (int what = 0; what < want.length; what++) {
            c.due("count(" + what + ")", x.count(what), want[what]);
        }
        c.due("NONE", LampPlate.NONE, -1);
        c.due("SPENT", LampPlate.SPENT, -2);
        c.due("back()", x.back(), false);
        c.due("undo()", x.undo(), -1);
        c.due("next()", x.next(), -1);
        c.due("apply()", x.apply(), -1);
        c.row("of a new object", x);
        c.due("entry(0, 0)", x.entry(0, 0), false);
        c.due("check(0) of an empty list", x.check(0), -1);
        c.due("check(1) of an empty list", x.check(1), 100);
    }

    private static void plate() {
        c.part("2 plate");
        LampPlate x = made(36, 12, 36);
        c.due("plate(0, 2, 1)", x.plate(0, 2, 1), false);
        c.due("plate(37, 2, 1)", x.plate(37, 2, 1), false);
        c.due("plate(4, 1, 1)", x.plate(4, 1, 1), false);
        c.due("plate(4, 13, 1)", x.plate(4, 13, 1), false);
        c.due("plate(4, 2, 0)", x.plate(4, 2, 0), false);
        c.due("plate(4, 2, 5)", x.plate(4, 2, 5), false);
        c.due("plate(MIN, MIN, MIN)", x.plate(MIN, MIN, MIN), false);
        c.due("plate(MAX, MAX, MAX)", x.plate(MAX, MAX, MAX), false);
        c.due("count(0)", x.count(0), 36);
        c.due("count(1)", x.count(1), 12);
        c.due("count(2)", x.count(2), 36);
        x.button(1, 35, 11, 0);
        x.light(3, 11);
        x.board(0, 7);
        x.tell(5);
        c.due("plate(0, 2, 1)", x.plate(0, 2, 1), false);
        c.due("buttons stay", x.count(3), 1);
        c.due("acts stay", x.count(4), 2);
        c.due("plate(4, 3, 2)", x.plate(4, 3, 2), true);
        c.shown("of a new plate", x, 0, 0, 0, 0);
        c.due("buttons", x.count(3), 0);
        c.due("acts", x.count(4), 0);
        c.due("undo()", x.undo(), -1);
        c.due("the board stays", x.count(7), 7);
        c.due("the list stays", x.tell(1), 2);
    }

    private static void button() {
        c.part("3 button");
        LampPlate x = made(7, 3, 3);
        c.due("no kind -1", x.button(-1, 0, 0, 0), -1);
        c.due("no kind 5", x.button(5, 0, 0, 0), -1);
        c.due("no kind MAX", x.button(MAX, 0, 0, 0), -1);
        c.due("cross of lamp 7", x.button(1, 7, 1, 0), -1);
        c.due("cross of lamp -1", x.button(1, -1, 1, 0), -1);
        c.due("cross of lamp 100", x.button(1, 100, 1, 0), -1);
        c.due("cross adds 3", x.button(1, 0, 3, 0), -1);
        c.due("cross adds -1", x.button(1, 0, -1, 0), -1);
        for (int kind = 2; kind <= 3; kind++) {
            c.due("row 3", x.button(kind, 3, 1, 0), -1);
            c.due("row -1", x.button(kind, -1, 1, 0), -1);
            c.due("row 99", x.button(kind, 99, 1, 0), -1);
            c.due("column 3", x.button(kind, 103, 1, 0), -1);
            c.due("row MIN", x.button(kind, MIN, 1, 0), -1);
            c.due("column MAX", x.button(kind, MAX, 1, 0), -1);
            c.due("line adds 3", x.button(kind, 0, 3, 0), -1);
            c.due("line adds -1", x.button(kind, 0, -1, 0), -1);
        }
        c.due("twin of none", x.button(4, 0, 1, 0), -1);
        c.due("no act", x.count(4), 0);
        c.due("no button", x.count(3), 0);
        c.due("of plain nothing matters", x.button(0, MIN, MAX, -1), 0);
        c.due("of cross other doesn't", x.button(1, 6, 0, 99), 1);
        c.due("short row, other doesn't matter", x.button(2, 2, 2, -7), 2);
        c.due("last column", x.button(3, 102, 2, MAX), 3);
        c.due("twin", x.button(4, 6, 2, 3), 4);
        c.due("twin of itself", x.button(4, 0, 1, 5), -1);
        c.due("twin of -1", x.button(4, 0, 1, -1), -1);
        c.due("twin of lamp 7", x.button(4, 7, 1, 0), -1);
        c.due("twin adds 3", x.button(4, 0, 3, 0), -1);
        for (int k = 5; k < 36; k++) {
            c.due("button " + k, x.button(0, 0, 0, 0), k);
        }
        c.due("there are 36", x.button(0, 0, 0, 0), -1);
        c.due("count(3)", x.count(3), 36);
        c.due("count(4)", x.count(4), 36);
    }

    private static void steps() {
        c.part("term 1, steps");
        LampPlate x = made(8, 5, 3);
        x.button(0, 0, 3, 0);
        c.steps(x, 0, 0, 0, 0, 0, 0, 0, 0, 0);
        x.button(1, 4, 3, 0);
        c.steps(x, 1, 0, 3, 0, 3, 3, 3, 0, 3);
        x.button(1, 5, 2, 0);
        c.steps(x, 2, 0, 0, 2, 0, 2, 2, 0, 0);
        x.button(1, 3, 1, 0);
        c.steps(x, 3, 1, 0, 0, 1, 1, 0, 1, 0);
        x.button(1, 7, 4, 0);
        c.steps(x, 4, 0, 0, 0, 0, 4, 0, 4, 4);
        x.button(2, 2, 4, 0);
        c.steps(x, 5, 0, 0, 0, 0, 0, 0, 4, 4);
        x.button(2, 102, 1, 0);
        c.steps(x, 6, 0, 0, 1, 0, 0, 1, 0, 0);
        x.button(3, 100, 2, 0);
        c.steps(x, 7, 2, 0, 0, 2, 0, 0, 2, 0);
        x.button(3, 1, 0, 0);
        c.steps(x, 8, 0, 0, 0, 0, 0, 0, 0, 0);
        LampPlate y = made(3, 2, 1);
        y.button(1, 0, 1, 0);
        c.steps(y, 0, 1, 1, 0);
        y.button(2, 2, 1, 0);
        c.steps(y, 1, 0, 0, 1);
        y.button(2, 100, 1, 0);
        c.steps(y, 2, 1, 1, 1);
    }

    private static void twins() {
        c.part("term 1, twins");
        LampPlate x = made(4, 4, 2);
        plain(x, 1, 2, 3, 0);
        x.button(3, 0, 3, 0);
        x.button(4, 0, 3, 0);
        c.steps(x, 2, 0, 1, 2, 0);
        x.button(4, 3, 1, 1);
        c.steps(x, 3, 3, 0, 1, 1);
        x.button(4, 1, 2, 2);
        c.steps(x, 4, 1, 1, 3, 2);
        rewire(x, 0, 0, 0, 0, 2);
        c.steps(x, 2, 3, 3, 3, 2);
        c.steps(x, 4, 1, 1, 3, 2);
        x.undo();
        c.steps(x, 2, 0, 1, 2, 0);
        c.due("a stuck one's twin is pushed", x.push(3, 1), 3);
    }

    private static void board() {
        c.part("4 board");
        LampPlate x = made(4, 3, 2);
        c.due("board(-1, 1)", x.board(-1, 1), false);
        c.due("board(5, 1)", x.board(5, 1), false);
        c.due("count(7)", x.count(7), -1);
        for (int kind = 0; kind < 4; kind++) {
            c.due("board(kind, 0)", x.board(kind, 0), true);
            c.due("count(7)", x.count(7), 0);
            c.due("board(kind, 80)", x.board(kind, 80), true);
            c.due("count(7)", x.count(7), 80);
            c.due("board(kind, 81)", x.board(kind, 81), false);
            c.due("board(kind, -1)", x.board(kind, -1), false);
            c.due("board(kind, MIN)", x.board(kind, MIN), false);
            c.due("count(7)", x.count(7), 80);
        }
        c.due("board(4, MIN)", x.board(4, MIN), true);
        c.due("count(7)", x.count(7), 0);
        c.due("board(4, 81)", x.board(4, 81), true);
        c.due("no act", x.count(4), 0);
        x.button(0, 0, 0, 0);
        x.board(0, 2);
        x.entry(0, 1);
        x.board(0, 2);
        c.due("a new board is all 0", x.wire(0), 0);
    }

    private static void entry() {
        c.part("5 entry");
        LampPlate x = made(4, 12, 2);
        x.button(0, 0, 0, 0);
        c.due("no board", x.entry(0, 1), false);
        x.board(4, 4);
        c.due("a missing one", x.entry(0, 1), false);
        x.board(0, 3);
        c.due("entry(-1)", x.entry(-1, 1), false);
        c.due("entry(3)", x.entry(3, 1), false);
        c.due("entry(MAX)", x.entry(MAX, 1), false);
        c.due("entry(0, 128)", x.entry(0, 128), true);
        c.due("entry(1, 511)", x.entry(1, 511), true);
        c.due("entry(2, 256)", x.entry(2, 256), true);
        c.due("wire(0)", x.wire(0), 2);
        c.steps(x, 0, 4, 11, 0, 0);
        x.board(1, 4);
        x.entry(0, 128);
        x.entry(1, 32768);
        x.entry(2, 65535);
        x.entry(3, -65536);
        x.wire(0);
        c.steps(x, 0, 8, 4, 11, 0);
        x.board(2, 1);
        x.entry(0, 0x1_0000_0000L + 5);
        x.wire(0);
        c.steps(x, 0, 1, 0, 1, 0);
        c.due("no board behind wire()", x.entry(0, 1), false);
    }

    private static void wire() {
        c.part("6 wire");
        LampPlate x = made(36, 3, 6);
        x.button(0, 0, 0, 0);
        x.button(1, 0, 1, 0);
        c.due("no board", x.wire(0), -1);
        x.board(2, 2);
        x.entry(0, MIN);
        x.entry(1, 8 + 16);
        c.due("no button 2", x.wire(2), -1);
        c.due("no button -1", x.wire(-1), -1);
        c.due("no plain one", x.wire(1), -1);
        c.due("the board stays", x.count(7), 2);
        c.due("no act", x.count(4), 2);
        c.due("wire(0)", x.wire(0), 2);
        c.due("step(0, 30)", x.step(0, 30), 0);
        c.due("step(0, 31)", x.step(0, 31), 1);
        c.due("step(0, 32)", x.step(0, 32), 0);
        c.due("step(0, 35)", x.step(0, 35), 1);
        c.due("there is none then", x.count(7), -1);
        c.due("an act", x.count(4), 3);
        x.board(2, 1);
        x.entry(0, -1);
        c.due("cut short", x.wire(0), 32);
        c.due("step(0, 31)", x.step(0, 31), 1);
        c.due("step(0, 32)", x.step(0, 32), 0);
        x.board(3, 1);
        x.entry(0, 1L << 35);
        c.due("longs", x.wire(0), 1);
        c.due("step(0, 35)", x.step(0, 35), 1);
        c.due("step(0, 3)", x.step(0, 3), 0);
        x.board(3, 0);
        c.due("a row without entries", x.wire(0), 0);
        c.due("step(0, 35)", x.step(0, 35), 0);
        x.board(0, 80);
        for (int i = 0; i < 80; i++) {
            x.entry(i, i);
        }
        c.due("longer than the lamps", x.wire(0), 24);
        c.due("step(0, 35)", x.step(0, 35), 2);
        x.board(4, 0);
        c.due("a missing one", x.wire(0), 0);
        c.due("step(0, 35)", x.step(0, 35), 0);
        c.due("none again", x.wire(0), -1);
        x.board(0, 2);
        x.entry(0, -1);
        x.entry(1, -3);
        x.plate(2, 7, 2);
        x.button(0, 0, 0, 0);
        c.due("a board of before counts by the colours of now", x.wire(0), 2);
        c.steps(x, 0, 6, 4);
    }

    private static void cost() {
        c.part("7 cost");
        LampPlate x = made(2, 2, 1);
        c.due("no button", x.cost(0, 1), -1);
        x.button(3, 0, 1, 0);
        c.due("cost(0, 0)", x.cost(0, 0), 1);
        c.due("cost(0, 1000)", x.cost(0, 1000), 0);
        c.due("cost(0, 1001)", x.cost(0, 1001), -1);
        c.due("cost(0, -1)", x.cost(0, -1), -1);
        c.due("cost(1, 5)", x.cost(1, 5), -1);
        c.due("cost(-1, 5)", x.cost(-1, 5), -1);
        c.due("cost(0, 7)", x.cost(0, 7), 1000);
        c.due("count(4)", x.count(4), 4);
        x.undo();
        x.undo();
        x.undo();
        x.undo();
        x.button(1, 0, 1, 0);
        c.due("a new button's", x.cost(0, 3), 1);
    }

    private static void light() {
        c.part("8 light");
        LampPlate x = made(3, 4, 2);
        c.due("light(2, 3)", x.light(2, 3), 0);
        c.due("light(2, 1)", x.light(2, 1), 3);
        c.due("light(2, 4)", x.light(2, 4), -1);
        c.due("light(2, -1)", x.light(2, -1), -1);
        c.due("light(3, 0)", x.light(3, 0), -1);
        c.due("light(-1, 0)", x.light(-1, 0), -1);
        c.due("light(2, 1)", x.light(2, 1), 1);
        c.shown("lit", x, 0, 0, 1);
        c.due("three acts", x.count(4), 3);
    }

    private static void push() {
        c.part("9 push");
        LampPlate x = made(4, 12, 2);
        x.button(1, 0, 11, 0);
        x.button(3, 0, 1, 0);
        x.button(1, 3, 6, 0);
        c.due("push(0, 0)", x.push(0, 0), 0);
        c.due("push(0, 1)", x.push(0, 1), 3);
        c.shown("pushed", x, 11, 11, 11, 0);
        c.due("push(0, 12)", x.push(0, 12), 0);
        c.due("push(0, 1000000)", x.push(0, 1000000), 3);
        c.shown("pushed", x, 7, 7, 7, 0);
        c.due("push(2, 3)", x.push(2, 3), 3);
        c.shown("pushed", x, 7, 1, 1, 6);
        c.due("push(2, 2)", x.push(2, 2), 0);
        c.due("acts", x.count(4), 9);
        c.due("push(0, 1000001)", x.push(0, 1000001), -1);
        c.due("push(0, -1)", x.push(0, -1), -1);
        c.due("push(1, 0)", x.push(1, 0), -1);
        c.due("push(3, 1)", x.push(3, 1), -1);
        c.due("push(-1, 1)", x.push(-1, 1), -1);
        c.due("acts", x.count(4), 9);
    }

    private static void chase() {
        c.part("10 chase");
        LampPlate x = crosses(5, 3, 2);
        lightAll(x, 1, 2, 0, 0, 2);
        c.due("chase()", x.chase(), 2 + 1);
        c.shown("chased", x, 0, 0, 0, 0, 1);
        c.due("an act", x.count(4), 11);
        c.due("nothing to chase", crosses(3, 2, 3).chase(), 0);
        LampPlate y = crosses(3, 2, 3);
        y.chase();
        c.due("an act all the same", y.count(4), 4);
        c.due("a button too many", y.button(0, 0, 0, 0) + y.chase(), 2);
        c.due("a button too few", y.undo() + 10 * y.undo() + 100 * y.undo() + y.chase(), 4 + 30 + 200 - 1);
        c.due("adds 2", odd(1, 2, 2, 0).chase(), -1);
        c.due("another lamp's", odd(1, 1, 1, 0).chase(), -1);
        c.due("a twin", odd(4, 2, 1, 0).chase(), -1);
        c.due("a plain one", odd(0, 2, 1, 0).chase(), -1);
        c.due("no buttons", new LampPlate().chase(), -1);
        c.due("no act", odd(1, 2, 2, 0).count(4), 3);
    }

    /** Two crosses and a third button that is another thing. */
    private static LampPlate odd(int kind, int a, int b, int other) {
        LampPlate x = made(3, 3, 1);
        x.button(1, 0, 1, 0);
        x.button(1, 1, 1, 0);
        c.due("the odd one", x.button(kind, a, b, other), 2);
        return x;
    }

    private static void undo() {
        c.part("11 undo");
        LampPlate x = made(1, 12, 1);
        c.due("undo()", x.undo(), -1);
        for (int i = 0; i < 70; i++) {
            x.light(0, i % 12);
            c.due("acts", x.count(4), Math.min(60, i + 1));
        }
        for (int i = 59; i >= 35; i--) {
            c.due("undo()", x.undo(), i);
        }
        c.due("shown(0)", x.shown(0), (70 - 25 - 1) % 12);
        x.light(0, 11);
        c.due("acts", x.count(4), 36);
        for (int i = 35; i >= 0; i--) {
            c.due("undo()", x.undo(), i);
        }
        c.due("undo()", x.undo(), -1);
        c.due("shown(0)", x.shown(0), 9);
        c.due("count(4)", x.count(4), 0);
        x.light(0, 3);
        x.plate(1, 12, 1);
        c.due("plate() ends it", x.undo(), -1);
    }

    private static void undoOfEachAct() {
        c.part("11 undo of each act");
        LampPlate x = crosses(4, 5, 2);
        lightAll(x, 1, 2, 0, 1);
        int acts = x.count(4);
        c.due("chase()", x.chase(), 4 + 3);
        c.due("undo()", x.undo(), acts);
        c.shown("not chased", x, 1, 2, 0, 1);
        c.due("push()", x.push(0, 1), 3);
        c.due("undo()", x.undo(), acts);
        c.shown("not pushed", x, 1, 2, 0, 1);
        c.due("can()", x.can(), 1);
        c.due("apply()", x.apply(), 3);
        c.due("undo()", x.undo(), acts);
        c.shown("not applied", x, 1, 2, 0, 1);
        int k = plain(x, 1, 2);
        c.due("two acts", x.count(4), acts + 2);
        rewire(x, k, 0, 0, 2, 2);
        x.board(1, 5);
        c.due("undo()", x.undo(), acts + 2);
        c.steps(x, k, 1, 2, 0, 0);
        c.due("the board stays", x.count(7), 5);
        x.cost(k, 9);
        c.due("undo()", x.undo(), acts + 2);
        c.due("cost()", x.cost(k, 5), 1);
        c.due("undo()", x.undo(), acts + 2);
        c.due("undo()", x.undo(), acts + 1);
        c.steps(x, k, 0, 0, 0, 0);
        c.due("undo()", x.undo(), acts);
        c.due("step()", x.step(k, 0), -1);
        x.tell(2);
        x.can();
        int first = x.row(0);
        x.undo();
        c.due("the row stays", x.row(0), first);
        c.due("the list stays", x.tell(1), 2);
    }

    private static void keepAndBack() {
        c.part("12, 13 keep, back");
        LampPlate x = made(3, 5, 2);
        c.due("back()", x.back(), false);
        plain(x, 1, 2, 3);
        x.button(4, 1, 1, 0);
        x.cost(1, 77);
        lightAll(x, 4, 3, 2);
        int acts = x.count(4);
        c.due("keep()", x.keep(), true);
        c.due("no act", x.count(4), acts);
        rewire(x, 0, 4, 4, 4);
        x.cost(1, 5);
        x.light(0, 0);
        c.due("back()", x.back(), true);
        c.due("no acts", x.count(4), 0);
        c.due("undo()", x.undo(), -1);
        c.steps(x, 0, 1, 2, 3);
        c.steps(x, 1, 2, 3, 3);
        c.shown("kept", x, 4, 3, 2);
        c.due("cost()", x.cost(1, 6), 77);
        x.plate(1, 2, 1);
        c.due("back()", x.back(), true);
        c.due("lamps", x.count(0), 3);
        c.due("colours", x.count(1), 5);
        c.due("width", x.count(2), 2);
        c.due("buttons", x.count(3), 2);
        c.due("cost()", x.cost(1, 6), 77);
        x.keep();
        x.cost(1, 8);
        x.back();
        c.due("in place of the one that was", x.cost(1, 6), 6);
    }

    private static void count() {
        c.part("14 count");
        LampPlate x = made(6, 4, 3);
        x.button(1, 0, 3, 0);
        x.push(0, 1);
        x.light(5, 2);
        x.board(0, 9);
        int[] want = {6, 4, 3, 1, 3, 4, 11, 9};
        for (int what = 0; what < want.length; what++) {
            c.due("count(" + what + ")", x.count(what), want[what]);
        }
        LampPlate y = made(36, 12, 6);
        for (int i = 0; i < 36; i++) {
            y.light(i, 11);
        }
        c.due("count(5)", y.count(5), 36);
        c.due("count(6)", y.count(6), 396);
        c.due("count(-1)", x.count(-1), -1);
        c.due("count(8)", x.count(8), -1);
        c.due("count(MIN)", x.count(MIN), -1);
    }

    private static void shownAndStep() {
        c.part("15, 16 shown, step");
        LampPlate x = made(2, 3, 1);
        x.button(1, 1, 2, 0);
        x.light(1, 2);
        c.shown("lit", x, 0, 2);
        c.due("shown(2)", x.shown(2), -1);
        c.due("shown(-1)", x.shown(-1), -1);
        c.due("step(0, 0)", x.step(0, 0), 2);
        c.due("step(0, 2)", x.step(0, 2), -1);
        c.due("step(0, -1)", x.step(0, -1), -1);
        c.due("step(1, 0)", x.step(1, 0), -1);
        c.due("step(-1, 0)", x.step(-1, 0), -1);
    }

    private static void can() {
        c.part("17 can");
        LampPlate x = made(2, 6, 2);
        plain(x, 2, 0);
        plain(x, 3, 0);
        plain(x, 0, 1);
        lightAll(x, 1, 5);
        c.due("can()", x.can(), 1);
        // 2p + 3q = 1 by 6: q is 1, 3 or 5, p is 2 or 5
        c.row("the first", x, 2, 1, 5);
        c.due("no act", x.count(4), 8);
        LampPlate y = made(1, 2, 1);
        y.button(3, 0, 1, 0);
        y.light(0, 1);
        c.due("by a stuck one it can't", y.can(), 0);
        c.row("why", y, 1);
        y.light(0, 0);
        c.due("can()", y.can(), 1);
        c.row("the stuck one is not pushed", y, 0);
        LampPlate z = new LampPlate();
        c.due("without buttons", z.can(), 1);
        c.row("of no buttons", z);
        z.light(0, 1);
        c.due("without buttons", z.can(), 0);
        c.row("why", z, 1);
    }

    private static void why() {
        c.part("17 why");
        LampPlate x = made(3, 6, 3);
        plain(x, 2, 2, 0);
        // weights: 2 (u + v) is 0 by 6, so the base is (1, 2, 0), (0, 3, 0), (0, 0, 1)
        lightAll(x, 1, 1, 0);
        c.due("can()", x.can(), 0);
        c.row("1 + 2", x, 1, 2, 0);
        lightAll(x, 4, 1, 0);
        c.due("can()", x.can(), 0);
        c.row("4 + 2, then 3", x, 0, 3, 0);
        lightAll(x, 2, 0, 0);
        c.due("can()", x.can(), 0);
        c.row("the first", x, 1, 2, 0);
        lightAll(x, 4, 4, 5);
        c.due("can()", x.can(), 0);
        c.row("the third", x, 0, 0, 1);
    }

    private static void next() {
        c.part("18 next");
        LampPlate x = made(1, 4, 1);
        plain(x, 2);
        plain(x, 1);
        x.light(0, 3);
        c.due("can()", x.can(), 1);
        int[][] all = {{1, 1}, {3, 1}, {0, 3}, {2, 3}};
        for (int i = 0; i < all.length; i++) {
            c.row("in order", x, all[i]);
            c.due("next()", x.next(), i + 1 < all.length ? 1 : 0);
        }
        c.row("stays", x, 2, 3);
        c.due("next() again", x.next(), 0);
        c.due("can()", x.can(), 1);
        c.row("from the first again", x, 1, 1);
        LampPlate y = made(1, 2, 1);
        y.button(0, 0, 0, 0);
        y.button(3, 0, 1, 0);
        y.button(0, 0, 0, 0);
        c.due("can()", y.can(), 1);
        c.due("next()", y.next(), 1);
        c.row("a stuck one stays 0", y, 1, 0, 0);
        c.due("next()", y.next(), 1);
        c.row("a stuck one stays 0", y, 0, 0, 1);
        c.due("next()", y.next(), 1);
        c.due("next()", y.next(), 0);
        c.row("the last", y, 1, 0, 1);
    }

    /** One button that does nothing, and a pattern that can be: can() has told the ROW. */
    private static LampPlate ready() {
        LampPlate x = made(1, 3, 1);
        x.keep();
        x.button(0, 0, 0, 0);
        x.board(4, 0);
        c.due("can()", x.can(), 1);
        return x;
    }

    private static void nextIsRefused() {
        c.part("18 next, refused");
        LampPlate a = ready();
        c.due("light(1, 0)", a.light(1, 0), -1);
        c.due("push(1, 0)", a.push(1, 0), -1);
        c.due("cost(0, 1001)", a.cost(0, 1001), -1);
        c.due("button(1, 9, 0, 0)", a.button(1, 9, 0, 0), -1);
        c.due("element(0, 5)", a.element(0, 5), -1);
        c.due("wire(7)", a.wire(7), -1);
        c.due("chase()", a.chase(), -1);
        c.due("plate(0, 0, 0)", a.plate(0, 0, 0), false);
        a.keep();
        a.board(0, 1);
        a.entry(0, 1);
        a.tell(1);
        a.check(0);
        a.primes(0, 3);
        a.base(1);
        a.count(4);
        c.due("next() behind calls that are no acts", a.next(), 1);
        nextBehindOtherSearches();
        LampPlate b = ready();
        b.undo();
        c.due("undo()", b.next(), -1);
        c.due("can()", b.can(), 1);
        c.due("undo() without an act", b.undo(), -1);
        c.due("next()", b.next(), 0);
        LampPlate d = ready();
        d.light(0, 0);
        c.due("light()", d.next(), -1);
        d = ready();
        d.push(0, 0);
        c.due("push()", d.next(), -1);
        d = ready();
        d.cost(0, 1);
        c.due("cost()", d.next(), -1);
        d = ready();
        d.wire(0);
        c.due("wire()", d.next(), -1);
        d = ready();
        d.button(0, 0, 0, 0);
        c.due("button()", d.next(), -1);
        d = ready();
        d.apply();
        c.due("apply()", d.next(), -1);
        d = ready();
        d.plate(1, 3, 1);
        c.due("plate()", d.next(), -1);
        d = ready();
        d.back();
        c.due("back()", d.next(), -1);
        d = ready();
        d.element(0, 0);
        c.due("element()", d.next(), -1);
        d = ready();
        d.least();
        c.due("least()", d.next(), -1);
        d = ready();
        d.worst();
        c.due("worst()", d.next(), -1);
        LampPlate e = crosses(1, 3, 1);
        e.can();
        e.chase();
        c.due("chase()", e.next(), -1);
    }

    /** Searches that tell no ROW leave the one that next() goes on from. */
    private static void nextBehindOtherSearches() {
        LampPlate x = made(1, 2, 1);
        for (int k = 0; k < 17; k++) {
            x.button(0, 0, 0, 0);
        }
        c.due("can()", x.can(), 1);
        c.due("next()", x.next(), 1);
        c.due("least()", x.least(), -2);
        c.due("worst()", x.worst(), -2);
        c.due("next()", x.next(), 1);
        c.due("row(0)", x.row(0), 0);
        c.due("row(1)", x.row(1), 1);
    }

    private static void row() {
        c.part("19 row");
        LampPlate x = made(3, 2, 3);
        c.row("nothing told", x);
        plain(x, 1, 0, 0);
        c.due("can()", x.can(), 1);
        c.row("by buttons", x, 0);
        x.light(1, 1);
        c.due("can()", x.can(), 0);
        c.row("by lamps", x, 0, 1, 0);
        c.due("least() refused", x.least(), -1);
        c.row("stays", x, 0, 1, 0);
        x.worst();
        c.row("a pattern", x, 1, 0, 0);
        x.element(1, 1);
        c.row("weights", x, 0, 0, 1);
        x.plate(1, 2, 1);
        c.row("stays", x, 0, 0, 1);
        c.due("row(MIN)", x.row(MIN), -1);
        c.due("row(MAX)", x.row(MAX), -1);
    }

    private static void primes() {
        c.part("20 primes");
        LampPlate x = made(3, 12, 3);
        plain(x, 2, 0, 0);
        plain(x, 0, 3, 0);
        plain(x, 0, 0, 0);
        x.button(3, 0, 1, 0);
        int[][] want = {{1 + 2, 1, 0, 0, 0}, {1 + 0 + 2, 0 + 1 + 1, 0, 0, 0}, {6, 3, 0, 0, 0}, {3, 2, 0, 0, 0}};
        int[] primes = {2, 3, 5, 7, 11};
        for (int what = 0; what < 4; what++) {
            for (int i = 0; i < 5; i++) {
                c.due("primes(" + what + ", " + primes[i] + ")", x.primes(what, primes[i]), want[what][i]);
            }
        }
        for (int prime : new int[] {MIN, -2, -1, 0, 1, 4, 6, 9, 12, 13, MAX}) {
            c.due("primes(0, " + prime + ")", x.primes(0, prime), -1);
        }
        c.due("primes(-1, 2)", x.primes(-1, 2), -1);
        c.due("primes(4, 2)", x.primes(4, 2), -1);
        for (int m : new int[] {2, 3, 5, 7, 11}) {
            LampPlate y = crosses(36, m, 36);
            c.due("all pushings, " + m, y.primes(2, m), 36);
            c.due("patterns and quiet ones, " + m, y.primes(0, m) + y.primes(1, m), 36);
            c.due("patterns and weights, " + m, y.primes(0, m) + y.primes(3, m), 36);
        }
        c.due("without buttons", new LampPlate().primes(0, 2), 0);
        c.due("without buttons", new LampPlate().primes(3, 2), 1);
    }

    private static void base() {
        c.part("21 base");
        LampPlate x = made(2, 6, 1);
        c.due("base(0)", x.base(0), 0);
        c.due("base(1)", x.base(1), 2);
        plain(x, 2, 2);
        c.due("base(0)", x.base(0), 1);
        c.due("base(1)", x.base(1), 2);
        plain(x, 0, 1);
        c.due("base(0)", x.base(0), 1);
        c.due("base(1)", x.base(1), 1);
        x.button(3, 0, 1, 0);
        c.due("stuck ones have none", x.base(0), 1);
        c.due("stuck ones bind no weights", x.base(1), 1);
        c.due("base(-1)", x.base(-1), -1);
        c.due("base(2)", x.base(2), -1);
    }

    private static void element() {
        c.part("22 element");
        LampPlate x = made(1, 6, 1);
        plain(x, 4);
        plain(x, 2);
        plain(x, 3);
        c.due("element(0, 0)", x.element(0, 0), 1);
        c.row("by the last button", x, 0, 0, 2);
        c.due("element(0, 1)", x.element(0, 1), 1);
        c.row("by the second", x, 1, 1, 0);
        c.due("element(0, 2)", x.element(0, 2), 1);
        c.row("by the first", x, 3, 0, 0);
        c.due("element(0, 3)", x.element(0, 3), -1);
        c.due("element(0, -1)", x.element(0, -1), -1);
        c.due("element(2, 0)", x.element(2, 0), -1);
        c.due("element(-1, 0)", x.element(-1, 0), -1);
        c.due("element(1, 0)", x.element(1, 0), -1);
        c.row("stays", x, 3, 0, 0);
        LampPlate y = made(3, 4, 3);
        plain(y, 2, 1, 3);
        c.due("base(1)", y.base(1), 2);
        c.due("element(1, 0)", y.element(1, 0), 1);
        c.row("by lamp 0", y, 1, 0, 2);
        c.due("element(1, 1)", y.element(1, 1), 1);
        c.row("by lamp 1", y, 0, 1, 1);
        c.due("element(1, 2)", y.element(1, 2), -1);
    }

    private static void least() {
        c.part("23 least");
        LampPlate x = made(2, 4, 2);
        plain(x, 1, 0);
        plain(x, 2, 0);
        plain(x, 3, 0);
        x.light(0, 3);
        c.due("least()", x.least(), 1);
        c.row("the cheapest", x, 0, 0, 1);
        x.cost(2, 1000);
        c.due("least()", x.least(), 2);
        c.row("1 and 2", x, 1, 1, 0);
        x.cost(1, 2);
        c.due("least()", x.least(), 3);
        c.row("of two alike ones the first", x, 3, 0, 0);
        x.cost(0, 0);
        c.due("least()", x.least(), 0);
        c.row("for nothing", x, 3, 0, 0);
        x.light(1, 1);
        c.due("it can't be", x.least(), -1);
        c.row("stays", x, 3, 0, 0);
        LampPlate y = made(1, 2, 1);
        for (int k = 0; k < 17; k++) {
            y.button(0, 0, 0, 0);
        }
        c.due("spent", y.least(), -2);
        c.row("nothing told", y);
        y.light(0, 1);
        c.due("it can't be, ahead of spent", y.least(), -1);
        y.undo();
        y.undo();
        c.due("65536 are not too many", y.least(), 0);
        y.button(3, 0, 1, 0);
        c.due("a stuck one doesn't count", y.least(), 0);
    }

    private static void worst() {
        c.part("24 worst");
        LampPlate x = made(2, 5, 1);
        plain(x, 0, 3);
        plain(x, 0, 1);
        c.due("worst()", x.worst(), 2);
        c.row("1, 3 cost one; 0 2 and 0 4 two", x, 0, 2);
        x.cost(0, 0);
        c.due("worst()", x.worst(), 0);
        c.row("all are free", x, 0, 0);
        x.cost(0, 7);
        c.due("worst()", x.worst(), 4);
        c.row("4 times 1", x, 0, 4);
        c.due("no act", x.count(4), 6);
        LampPlate y = made(1, 2, 1);
        for (int k = 0; k < 16; k++) {
            y.button(1, 0, 1, 0);
        }
        y.button(3, 0, 1, 0);
        c.due("65536 are not too many, a stuck one doesn't count", y.worst(), 1);
        c.row("lit", y, 1);
        y.button(1, 0, 0, 0);
        c.due("spent", y.worst(), -2);
        c.row("stays", y, 1);
        LampPlate z = made(4, 12, 2);
        for (int k = 0; k < 4; k++) {
            z.button(2, k % 2, k, 0);
        }
        c.due("12^4 are not too many", z.worst() >= 0, true);
        z.button(0, 0, 0, 0);
        c.due("12^5 are", z.worst(), -2);
    }

    private static void apply() {
        c.part("25 apply");
        LampPlate x = made(3, 3, 3);
        c.due("nothing told", x.apply(), -1);
        plain(x, 1, 1, 0);
        plain(x, 0, 1, 2);
        plain(x, 1, 2, 2);
        lightAll(x, 1, 0, 1);
        c.due("can()", x.can(), 1);
        c.row("the first", x, 1, 2, 0);
        int acts = x.count(4);
        c.due("apply()", x.apply(), 2);
        c.shown("applied", x, 2, 0, 2);
        c.due("apply()", x.apply(), 2);
        c.shown("applied again", x, 0, 0, 0);
        c.due("acts", x.count(4), acts + 2);
        c.due("element(0, 0)", x.element(0, 0), 1);
        c.due("a quiet one", x.apply(), 0);
        c.due("acts", x.count(4), acts + 3);
        c.due("worst()", x.worst() >= 0, true);
        c.due("a pattern is none", x.apply(), -1);
        c.due("element(1, 0)", x.element(1, 0), 1);
        c.due("weights are none", x.apply(), -1);
        c.due("least()", x.least(), 0);
        x.button(0, 0, 0, 0);
        c.due("of fewer buttons", x.apply(), -1);
        x.undo();
        c.due("of as many", x.apply(), 0);
        acrossPlates();
    }

    /** The ROW outlives the plate that it was told for. */
    private static void acrossPlates() {
        LampPlate x = made(1, 5, 1);
        x.button(1, 0, 1, 0);
        x.light(0, 2);
        x.can();
        x.plate(2, 2, 1);
        x.button(1, 0, 1, 0);
        c.due("2 is not below 2", x.apply(), -1);
        x.plate(2, 3, 1);
        x.button(3, 0, 1, 0);
        c.due("a stuck one", x.apply(), -1);
        c.due("no act", x.count(4), 1);
        x.plate(2, 3, 1);
        x.button(1, 0, 1, 0);
        c.due("apply()", x.apply(), 2);
        c.shown("applied", x, 2, 2);
        x.plate(1, 2, 1);
        x.can();
        c.due("of no buttons", x.apply(), 0);
        c.due("an act", x.count(4), 1);
    }

    private static void tell() {
        c.part("26 tell");
        LampPlate x = new LampPlate();
        c.due("tell(-1)", x.tell(-1), -1);
        c.due("tell(12)", x.tell(12), -1);
        for (int i = 1; i <= 36; i++) {
            c.due("tell(11)", x.tell(i % 12), i);
        }
        c.due("there are 36", x.tell(0), -1);
        c.due("no act", x.count(4), 0);
        c.due("check(0)", x.check(0), 100);
        c.due("it is empty then", x.tell(11), 1);
    }

    private static void checkPushing() {
        c.part("27 check of a pushing");
        LampPlate x = made(3, 3, 3);
        plain(x, 1, 2, 0);
        x.button(3, 0, 1, 0);
        plain(x, 0, 0, 2);
        lightAll(x, 2, 1, 1);
        tellAll(x, 2, 0, 2);
        c.due("check(2)", x.check(2), -2);
        c.due("check(-1)", x.check(-1), -2);
        c.due("it is right", x.check(0), -1);
        tellAll(x, 2, 0);
        c.due("too few", x.check(0), 100);
        tellAll(x, 2, 0, 2, 0);
        c.due("too many", x.check(0), 100);
        tellAll(x, 2, 1, 3);
        c.due("not below 3", x.check(0), 100);
        tellAll(x, 1, 2, 2);
        c.due("the stuck one", x.check(0), 201);
        tellAll(x, 1, 0, 2);
        c.due("lamp 0", x.check(0), 300);
        tellAll(x, 2, 0, 1);
        c.due("lamp 2", x.check(0), 302);
        c.due("the list is empty", x.check(0), 100);
    }

    private static void checkWeights() {
        c.part("27 check of weights");
        LampPlate x = made(3, 4, 3);
        x.button(3, 0, 1, 0);
        plain(x, 2, 0, 0);
        plain(x, 0, 1, 1);
        lightAll(x, 1, 2, 2);
        tellAll(x, 2, 0, 0);
        c.due("it is right", x.check(1), -1);
        tellAll(x, 2, 0);
        c.due("too few", x.check(1), 100);
        tellAll(x, 2, 0, 0, 0);
        c.due("too many", x.check(1), 100);
        tellAll(x, 2, 0, 4);
        c.due("not below 4", x.check(1), 100);
        tellAll(x, 1, 1, 0);
        c.due("button 1", x.check(1), 201);
        tellAll(x, 2, 1, 0);
        c.due("button 2", x.check(1), 202);
        tellAll(x, 0, 1, 3);
        c.due("under which it is 0", x.check(1), 300);
        tellAll(x, 0, 0, 0);
        c.due("all 0", x.check(1), 300);
        c.due("no act", x.count(4), 8);
    }
}
