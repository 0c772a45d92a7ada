/** Promises 1 to 16 of the document, sentence by sentence, at their edges. */
final class PlateSentences {
    private static final int MIN = Plates.MIN;
    private static final int MAX = Plates.MAX;
    private static final Checks c = SentencesTest.c;

    private PlateSentences() {
    }

    // Promise 1: A new object

    static void p01Plate() {
        SentencesTest.holds("Promise 1", "A PLATE of one lamp, two colours, width 1, without buttons;");
        LampPlate x = new LampPlate();
        int[] want = {1, 2, 1, 0, 0, 0, 0};
        for (int what = 0; what < want.length; what++) {
            c.due("count(" + what + ")", x.count(what), want[what]);
        }
        c.due("shown(0)", x.shown(0), 0);
        c.due("shown(1)", x.shown(1), -1);
        c.due("step(0, 0)", x.step(0, 0), -1);
        c.due("push(0, 0)", x.push(0, 0), -1);
        c.due("cost(0, 1)", x.cost(0, 1), -1);
        c.due("chase()", x.chase(), -1);
        c.due("light(0, 2)", x.light(0, 2), -1);
        c.due("light(0, 1)", x.light(0, 1), 0);
        c.due("check(0) of an empty list", new LampPlate().check(0), -1);
        c.due("can()", new LampPlate().can(), 1);
        c.due("worst()", new LampPlate().worst(), 0);
        c.due("NONE", LampPlate.NONE, -1);
        c.due("SPENT", LampPlate.SPENT, -2);
    }

    static void p01NoBoard() {
        SentencesTest.holds("Promise 1", "no board;");
        LampPlate x = new LampPlate();
        c.due("count(7)", x.count(7), -1);
        c.due("entry(0, 1)", x.entry(0, 1), false);
        x.button(0, 0, 0, 0);
        c.due("wire(0)", x.wire(0), -1);
    }

    static void p01NothingKeptOrTold() {
        SentencesTest.holds("Promise 1", "nothing kept, nothing told.");
        LampPlate x = new LampPlate();
        c.due("back()", x.back(), false);
        for (int i = -1; i <= 36; i++) {
            c.due("row(" + i + ")", x.row(i), -1);
        }
        c.due("next()", x.next(), -1);
        c.due("apply()", x.apply(), -1);
        c.due("undo()", x.undo(), -1);
        c.due("tell(0)", x.tell(0), 1);
    }

    // Promise 2: plate

    static void p02NewPlate() {
        SentencesTest.holds("Promise 2", "A new PLATE without buttons: true;");
        LampPlate x = Plates.crosses(4, 12, 2);
        Plates.light(x, 11, 1, 2, 3);
        x.cost(0, 9);
        x.board(1, 7);
        x.tell(5);
        x.can();
        int told = x.row(3);
        c.due("plate(36, 2, 36)", x.plate(36, 2, 36), true);
        int[] want = {36, 2, 36, 0, 0, 0, 0, 7};
        for (int what = 0; what < want.length; what++) {
            c.due("count(" + what + ")", x.count(what), want[what]);
        }
        c.due("step(0, 0)", x.step(0, 0), -1);
        c.due("the ROW stays", x.row(3), told);
        c.due("THE LIST stays", x.tell(1), 2);
        c.due("a button's number", x.button(0, 0, 0, 0), 0);
        c.due("its cost", x.cost(0, 1), 1);
        c.due("its steps", x.step(0, 35), 0);
        c.due("plate() as it was", x.plate(36, 2, 36), true);
        c.due("buttons", x.count(3), 0);
    }

    static void p02NothingOfTheOldOne() {
        SentencesTest.holds("Promise 2", "A new PLATE without buttons: true;");
        LampPlate x = Plates.made(36, 3, 6);
        x.button(0, 0, 0, 0);
        x.board(2, 2);
        x.entry(0, -1);
        x.entry(1, -1);
        c.due("wire(0)", x.wire(0), 36);
        x.cost(0, 9);
        c.due("WEIGHTS of the old one", x.base(1), 35);
        x.plate(36, 3, 4);
        c.due("WEIGHTS of the new one", x.base(1), 36);
        c.due("QUIET pushings of the new one", x.base(0), 0);
        x.button(0, 0, 0, 0);
        for (int lamp = 0; lamp < 36; lamp++) {
            c.due("step(0, " + lamp + ")", x.step(0, lamp), 0);
        }
        c.due("cost(0, 1)", x.cost(0, 1), 1);
        x.plate(2, 5, 1);
        c.due("WEIGHTS of a smaller one", x.base(1), 2);
        c.due("by its colours", x.primes(3, 5), 2);
        x.light(1, 1);
        c.due("can()", x.can(), 0);
        c.row("why", x, 0, 1);
    }

    static void p02OtherNumbers() {
        SentencesTest.holds("Promise 2", "false for other numbers than are told.");
        LampPlate x = Plates.made(4, 3, 2);
        x.light(3, 2);
        int[][] wrong = {{0, 2, 1}, {0, 2, 0}, {-1, 2, 1}, {37, 2, 1}, {37, 2, 37}, {4, 1, 1}, {4, 0, 1}, {4, -2, 1}, {4, 13, 1}, {4, 2, 0}, {4, 2, -1},
            {4, 2, 5}, {36, 12, 37}, {1, 2, 2}, {MIN, 2, 1}, {MAX, 2, 1}, {4, MIN, 1}, {4, MAX, 1}, {4, 2, MIN}, {4, 2, MAX}};
        for (int[] v : wrong) {
            c.due("plate(" + v[0] + ", " + v[1] + ", " + v[2] + ")", x.plate(v[0], v[1], v[2]), false);
        }
        c.due("lamps", x.count(0), 4);
        c.due("colours", x.count(1), 3);
        c.due("width", x.count(2), 2);
        c.due("ACTS", x.count(4), 1);
        c.due("shown(3)", x.shown(3), 2);
    }

    // Promise 3: button

    static void p03ItsNumber() {
        SentencesTest.holds("Promise 3", "A BUTTON: its number.");
        LampPlate x = Plates.made(4, 3, 2);
        for (int kind = 0; kind <= 4; kind++) {
            c.due("of kind " + kind, x.button(kind, 0, 2, 0), kind);
        }
        c.due("buttons", x.count(3), 5);
        c.due("ACTS", x.count(4), 5);
        x.undo();
        c.due("the number of one taken back", x.button(1, 0, 2, 0), 4);
    }

    static void p03NoSuchKind() {
        SentencesTest.holds("Promise 3", "NONE: no such KIND;");
        LampPlate x = Plates.made(4, 3, 2);
        for (int kind : new int[] {MIN, -2, -1, 5, 6, 100, MAX}) {
            c.due("button(" + kind + ", 0, 0, 0)", x.button(kind, 0, 0, 0), -1);
        }
        c.due("buttons", x.count(3), 0);
        c.due("ACTS", x.count(4), 0);
    }

    static void p03NoLamp() {
        SentencesTest.holds("Promise 3", "of CROSS, TWIN: no lamp a;");
        LampPlate x = Plates.made(7, 3, 3);
        x.button(0, 0, 0, 0);
        for (int kind = 1; kind <= 4; kind += 3) {
            for (int a : new int[] {MIN, -1, 7, 8, 35, 100, 102, MAX}) {
                c.due("button(" + kind + ", " + a + ", 1, 0)", x.button(kind, a, 1, 0), -1);
            }
        }
        c.due("buttons", x.count(3), 1);
        c.due("a CROSS of the last lamp", x.button(1, 6, 1, 0), 1);
        c.due("a TWIN of the last lamp", x.button(4, 6, 1, 0), 2);
    }

    static void p03NoRowOrColumn() {
        SentencesTest.holds("Promise 3", "of LINE, STUCK: no such row or column;");
        LampPlate x = Plates.made(7, 3, 3);
        for (int kind = 2; kind <= 3; kind++) {
            for (int a : new int[] {MIN, -1, 3, 6, 99, 103, 106, 136, MAX}) {
                c.due("button(" + kind + ", " + a + ", 1, 0)", x.button(kind, a, 1, 0), -1);
            }
        }
        c.due("buttons", x.count(3), 0);
        for (int kind = 2; kind <= 3; kind++) {
            c.due("the last row, a shorter one", x.button(kind, 2, 1, 0), kind * 2 - 4);
            c.due("the last column", x.button(kind, 102, 1, 0), kind * 2 - 3);
        }
        LampPlate tall = Plates.made(36, 2, 1);
        c.due("row 35 of 36", tall.button(2, 35, 1, 0), 0);
        c.due("row 36 of 36", tall.button(2, 36, 1, 0), -1);
        c.due("column 0 of 1", tall.button(3, 100, 1, 0), 1);
        c.due("column 1 of 1", tall.button(3, 101, 1, 0), -1);
        LampPlate wide = Plates.made(36, 2, 36);
        c.due("row 0 of 1", wide.button(3, 0, 1, 0), 0);
        c.due("row 1 of 1", wide.button(3, 1, 1, 0), -1);
        c.due("column 35 of 36", wide.button(2, 135, 1, 0), 1);
        c.due("column 36 of 36", wide.button(2, 136, 1, 0), -1);
    }

    static void p03TooMuchToAdd() {
        SentencesTest.holds("Promise 3", "b not 0 .. m - 1;");
        for (int m = 2; m <= 12; m++) {
            LampPlate x = Plates.made(4, m, 2);
            x.button(0, 0, 0, 0);
            for (int kind = 1; kind <= 4; kind++) {
                for (int b : new int[] {MIN, -1, m, m + 1, MAX}) {
                    c.due("button(" + kind + ", 0, " + b + ", 0) of " + m, x.button(kind, 0, b, 0), -1);
                }
                c.due("button(" + kind + ", 0, 0, 0)", x.button(kind, 0, 0, 0), kind * 2 - 1);
                c.due("button(" + kind + ", 0, m - 1, 0)", x.button(kind, 0, m - 1, 0), kind * 2);
            }
        }
    }

    static void p03NoOther() {
        SentencesTest.holds("Promise 3", "of TWIN: other is no button that there is");
        LampPlate x = Plates.made(4, 3, 2);
        c.due("without any", x.button(4, 0, 1, 0), -1);
        c.due("button(0, ..)", x.button(0, 0, 0, 0), 0);
        for (int other : new int[] {MIN, -1, 1, 2, 36, MAX}) {
            c.due("button(4, 0, 1, " + other + ")", x.button(4, 0, 1, other), -1);
        }
        c.due("of the one that there is", x.button(4, 0, 1, 0), 1);
        c.due("of itself", x.button(4, 0, 1, 2), -1);
        c.due("of the last one", x.button(4, 0, 1, 1), 2);
        x.undo();
        x.undo();
        c.due("of one taken back", x.button(4, 0, 1, 1), -1);
    }

    static void p03OtherDoesNotMatter() {
        SentencesTest.holds("Promise 3", "(of the others it doesn't matter;");
        LampPlate x = Plates.made(4, 3, 2);
        int due = 0;
        for (int kind = 0; kind <= 3; kind++) {
            for (int other : new int[] {MIN, -1, 36, MAX}) {
                c.due("button(" + kind + ", 0, 1, " + other + ")", x.button(kind, 0, 1, other), due);
                due++;
            }
        }
        c.steps(x, 4, 1, 1, 1, 0);
        c.steps(x, 15, 1, 1, 0, 0);
    }

    static void p03OfPlainNothingMatters() {
        SentencesTest.holds("Promise 3", "of PLAIN nothing does);");
        LampPlate x = Plates.made(4, 3, 2);
        int due = 0;
        for (int v : new int[] {MIN, -1, 3, 99, MAX}) {
            c.due("button(0, " + v + ", ..)", x.button(0, v, 0, 0), due);
            c.due("button(0, 0, " + v + ", 0)", x.button(0, 0, v, 0), due + 1);
            c.due("button(0, " + v + ", " + v + ", " + v + ")", x.button(0, v, v, v), due + 2);
            c.steps(x, due + 2, 0, 0, 0, 0);
            due += 3;
        }
        c.due("push()", x.push(2, 1), 0);
    }

    static void p03ThereAre36() {
        SentencesTest.holds("Promise 3", "there are 36.");
        LampPlate x = Plates.idle(35, 2);
        c.due("the 36th", x.button(1, 0, 1, 0), 35);
        for (int kind = 0; kind <= 4; kind++) {
            c.due("a 37th of kind " + kind, x.button(kind, 0, 1, 0), -1);
        }
        c.due("buttons", x.count(3), 36);
        c.due("ACTS", x.count(4), 36);
        c.due("push(35, 1)", x.push(35, 1), 1);
        c.due("cost(35, 2)", x.cost(35, 2), 1);
        c.due("step(36, 0)", x.step(36, 0), -1);
    }

    // Promise 4: board

    static void p04InPlace() {
        SentencesTest.holds("Promise 4", "A BOARD of a KIND 0 .. 3 with n entries (0 .. 80), all 0, in place of the one that there is;");
        LampPlate x = Plates.made(4, 3, 2);
        x.button(0, 0, 0, 0);
        for (int kind = 0; kind <= 3; kind++) {
            c.due("board(" + kind + ", 0)", x.board(kind, 0), true);
            c.due("count(7)", x.count(7), 0);
            c.due("entry(0, 1)", x.entry(0, 1), false);
            c.due("board(" + kind + ", 80)", x.board(kind, 80), true);
            c.due("count(7)", x.count(7), 80);
            c.due("entry(79, 1)", x.entry(79, 1), true);
            c.due("entry(80, 1)", x.entry(80, 1), false);
            x.entry(0, 7);
            x.entry(1, 1);
            c.due("board(" + kind + ", 2)", x.board(kind, 2), true);
            c.due("all 0", x.wire(0), 0);
        }
        c.due("no ACTS but button() and wire()", x.count(4), 5);
    }

    static void p04Missing() {
        SentencesTest.holds("Promise 4", "4: a missing one: true;");
        LampPlate x = Plates.made(4, 3, 2);
        x.button(0, 0, 0, 0);
        x.board(0, 4);
        x.entry(0, 1);
        c.due("board(4, 4)", x.board(4, 4), true);
        c.due("count(7)", x.count(7), 0);
        c.due("entry(0, 1)", x.entry(0, 1), false);
        c.due("wire(0)", x.wire(0), 0);
        c.due("none then", x.count(7), -1);
    }

    static void p04OtherKindOrNumber() {
        SentencesTest.holds("Promise 4", "false for another KIND or n");
        LampPlate x = Plates.made(4, 3, 2);
        c.due("board(-1, 1)", x.board(-1, 1), false);
        c.due("none yet", x.count(7), -1);
        x.button(0, 0, 0, 0);
        x.board(0, 3);
        x.entry(2, 2);
        for (int kind : new int[] {MIN, -1, 5, 6, MAX}) {
            c.due("board(" + kind + ", 1)", x.board(kind, 1), false);
        }
        for (int kind = 0; kind <= 3; kind++) {
            for (int n : new int[] {MIN, -1, 81, 82, MAX}) {
                c.due("board(" + kind + ", " + n + ")", x.board(kind, n), false);
            }
        }
        c.due("the one that there is stays", x.count(7), 3);
        c.due("its entries, too", x.wire(0), 1);
        c.steps(x, 0, 0, 0, 2, 0);
    }

    static void p04OfMissingNumberDoesNotMatter() {
        SentencesTest.holds("Promise 4", "(of 4 n doesn't matter).");
        LampPlate x = new LampPlate();
        for (int n : new int[] {MIN, -1, 0, 80, 81, MAX}) {
            c.due("board(4, " + n + ")", x.board(4, n), true);
            c.due("count(7)", x.count(7), 0);
        }
    }

    // Promise 5: entry

    static void p05LowestBits() {
        SentencesTest.holds("Promise 5", "Entry i of the board becomes v (its lowest 8, 16, 32 bits with a sign, or all 64): true;");
        long[] values = {127, 128, 255, 256, -129, 32767, 32768, 65535, 65536, -32769, Long.MIN_VALUE, Long.MAX_VALUE, 1L << 32, -1};
        for (long v : values) {
            c.due(v + " as a byte, by 11", stepOf(0, v), Math.floorMod((byte) v, 11));
            c.due(v + " as a short, by 11", stepOf(1, v), Math.floorMod((short) v, 11));
        }
        c.due("128 is -128, by 11", stepOf(0, 128), 4);
        c.due("32768 is -32768, by 11", stepOf(1, 32768), 1);
        LampPlate x = Plates.made(36, 3, 6);
        x.button(0, 0, 0, 0);
        x.board(2, 2);
        x.entry(0, 0x1_8000_0001L);
        x.entry(1, -1L << 32);
        c.due("32 bits", x.wire(0), 2);
        c.due("bit 0", x.step(0, 0), 1);
        c.due("bit 31", x.step(0, 31), 1);
        x.board(3, 1);
        x.entry(0, 0x8_8000_0001L);
        c.due("64 bits", x.wire(0), 3);
        c.due("bit 35", x.step(0, 35), 1);
        x.board(0, 80);
        x.entry(3, 1);
        c.due("entry(3, 2) again", x.entry(3, 2), true);
        c.due("in place of the one that was", x.wire(0) * 10 + x.step(0, 3), 12);
    }

    private static int stepOf(int kind, long v) {
        LampPlate x = Plates.made(1, 11, 1);
        x.button(0, 0, 0, 0);
        x.board(kind, 1);
        c.due("entry(0, " + v + ")", x.entry(0, v), true);
        x.wire(0);
        return x.step(0, 0);
    }

    static void p05NoneSuch() {
        SentencesTest.holds("Promise 5", "false if it has none such,");
        LampPlate x = Plates.made(4, 3, 2);
        x.button(0, 0, 0, 0);
        for (int kind = 0; kind <= 3; kind++) {
            x.board(kind, 3);
            for (int i : new int[] {MIN, -1, 3, 4, 80, MAX}) {
                c.due("entry(" + i + ", 1) of 3", x.entry(i, 1), false);
            }
            c.due("nothing came to it", x.wire(0), 0);
            x.board(kind, 80);
            c.due("entry(80, 1) of 80", x.entry(80, 1), false);
            x.board(kind, 0);
            c.due("entry(0, 1) of none", x.entry(0, 1), false);
        }
    }

    static void p05Missing() {
        SentencesTest.holds("Promise 5", "is missing,");
        LampPlate x = Plates.made(4, 3, 2);
        x.button(0, 0, 0, 0);
        x.board(4, 4);
        for (int i : new int[] {MIN, -1, 0, 3, MAX}) {
            c.due("entry(" + i + ", 1)", x.entry(i, 1), false);
        }
        c.due("wire(0)", x.wire(0), 0);
    }

    static void p05NoBoard() {
        SentencesTest.holds("Promise 5", "or there is none.");
        LampPlate x = Plates.made(4, 3, 2);
        c.due("entry(0, 1)", x.entry(0, 1), false);
        x.button(0, 0, 0, 0);
        x.board(0, 4);
        x.wire(0);
        c.due("entry(0, 1) behind wire()", x.entry(0, 1), false);
        c.due("step(0, 0)", x.step(0, 0), 0);
    }

    // Promise 6: wire

    static void p06HowMany() {
        SentencesTest.holds("Promise 6", "The board becomes a PLAIN button's: how many lamps have steps that are not 0;");
        LampPlate x = Plates.made(4, 3, 2);
        x.button(1, 0, 1, 0);
        x.button(0, 0, 0, 0);
        x.button(0, 0, 0, 0);
        c.due("none", Plates.wire(x, 1, 0, 0, 0, 0), 0);
        c.due("all", Plates.wire(x, 1, 1, 2, -1, 4), 4);
        c.due("3 and -3 are 0", Plates.wire(x, 1, 3, 1, -3, 0), 1);
        c.steps(x, 1, 0, 1, 0, 0);
        c.due("entries behind the lamps don't count", Plates.wire(x, 2, 0, 0, 0, 2, 1, 1), 1);
        c.steps(x, 2, 0, 0, 0, 2);
        c.steps(x, 1, 0, 1, 0, 0);
        c.due("cut short", Plates.wire(x, 2, 2), 1);
        c.steps(x, 2, 2, 0, 0, 0);
        c.due("ACTS", x.count(4), 8);
        x.board(0, 4);
        x.entry(0, 6);
        x.entry(1, -1);
        x.plate(2, 7, 2);
        x.button(0, 0, 0, 0);
        c.due("a board of before, by the colours of now", x.wire(0), 2);
        c.steps(x, 0, 6, 6);
    }

    static void p06NoBoardThen() {
        SentencesTest.holds("Promise 6", "there is no board then.");
        LampPlate x = Plates.made(4, 3, 2);
        x.button(0, 0, 0, 0);
        for (int kind = 0; kind <= 4; kind++) {
            x.board(kind, 2);
            c.due("wire(0)", x.wire(0), 0);
            c.due("count(7)", x.count(7), -1);
            c.due("entry(0, 1)", x.entry(0, 1), false);
            c.due("wire(0) again", x.wire(0), -1);
        }
    }

    static void p06NoButton() {
        SentencesTest.holds("Promise 6", "NONE: no such button,");
        LampPlate x = Plates.made(4, 3, 2);
        x.board(0, 2);
        c.due("wire(0) without any", x.wire(0), -1);
        x.button(0, 0, 0, 0);
        for (int button : new int[] {MIN, -1, 1, 36, MAX}) {
            c.due("wire(" + button + ")", x.wire(button), -1);
        }
        c.due("the board stays", x.count(7), 2);
        c.due("no ACT", x.count(4), 1);
        x.undo();
        c.due("one taken back", x.wire(0), -1);
    }

    static void p06NoPlainOne() {
        SentencesTest.holds("Promise 6", "or no PLAIN one,");
        LampPlate x = Plates.made(4, 3, 2);
        x.button(0, 0, 0, 0);
        x.button(1, 0, 1, 0);
        x.button(2, 0, 1, 0);
        x.button(3, 0, 1, 0);
        x.button(4, 0, 1, 0);
        x.board(0, 2);
        x.entry(0, 2);
        for (int button = 1; button <= 4; button++) {
            c.due("wire(" + button + ")", x.wire(button), -1);
        }
        c.due("the board stays", x.count(7), 2);
        c.due("no ACT", x.count(4), 5);
        c.steps(x, 1, 1, 1, 1, 0);
        c.due("the entry stays", x.wire(0), 1);
    }

    static void p06NoBoard() {
        SentencesTest.holds("Promise 6", "or no board.");
        LampPlate x = Plates.made(4, 3, 2);
        Plates.plain(x, 1, 2);
        c.due("wire(0)", x.wire(0), -1);
        c.due("no ACT", x.count(4), 2);
        c.steps(x, 0, 1, 2, 0, 0);
        x.board(5, 4);
        c.due("wire(0) behind a refused board()", x.wire(0), -1);
        x.undo();
        c.due("undo() brings none", x.wire(0), -1);
    }

    // Promise 7: cost

    static void p07WhatItWas() {
        SentencesTest.holds("Promise 7", "A button's COST: what it was.");
        LampPlate x = Plates.made(4, 3, 2);
        x.button(0, 0, 0, 0);
        for (int kind = 0; kind <= 4; kind++) {
            x.button(kind, 0, 1, 0);
        }
        for (int button = 0; button <= 5; button++) {
            c.due("cost(" + button + ", 0)", x.cost(button, 0), 1);
            c.due("cost(" + button + ", 1000)", x.cost(button, 1000), 0);
            c.due("cost(" + button + ", 7)", x.cost(button, 7), 1000);
        }
        c.due("ACTS", x.count(4), 24);
        c.due("undo()", x.undo(), 23);
        c.due("cost(5, 3)", x.cost(5, 3), 1000);
        c.due("cost(0, 3)", x.cost(0, 3), 7);
        x.plate(4, 3, 2);
        x.button(1, 0, 1, 0);
        c.due("of a new one", x.cost(0, 5), 1);
        x.undo();
        x.undo();
        x.button(1, 0, 1, 0);
        c.due("of one in a number taken back", x.cost(0, 5), 1);
    }

    static void p07NoButton() {
        SentencesTest.holds("Promise 7", "NONE: no such button,");
        LampPlate x = Plates.made(4, 3, 2);
        c.due("without any", x.cost(0, 1), -1);
        x.button(1, 0, 1, 0);
        for (int button : new int[] {MIN, -1, 1, 36, MAX}) {
            c.due("cost(" + button + ", 1)", x.cost(button, 1), -1);
        }
        c.due("no ACT", x.count(4), 1);
    }

    static void p07TooMuch() {
        SentencesTest.holds("Promise 7", "or not 0 .. 1000.");
        LampPlate x = Plates.made(4, 3, 2);
        x.button(1, 0, 1, 0);
        for (int v : new int[] {MIN, -1, 1001, MAX}) {
            c.due("cost(0, " + v + ")", x.cost(0, v), -1);
        }
        c.due("no ACT", x.count(4), 1);
        c.due("it stays", x.cost(0, 1), 1);
    }

    // Promise 8: light

    static void p08WhatItShowed() {
        SentencesTest.holds("Promise 8", "A lamp SHOWS v: what it SHOWED.");
        for (int m = 2; m <= 12; m++) {
            LampPlate x = Plates.made(36, m, 36);
            c.due("light(35, m - 1)", x.light(35, m - 1), 0);
            c.due("shown(35)", x.shown(35), m - 1);
            c.due("light(35, m - 1) again", x.light(35, m - 1), m - 1);
            c.due("light(35, 0)", x.light(35, 0), m - 1);
            c.due("light(0, 1)", x.light(0, 1), 0);
            c.due("only one is lit", x.count(5), 1);
            c.due("ACTS", x.count(4), 4);
        }
    }

    static void p08NoLamp() {
        SentencesTest.holds("Promise 8", "NONE: no such lamp,");
        LampPlate x = Plates.made(4, 3, 2);
        for (int lamp : new int[] {MIN, -1, 4, 35, 36, MAX}) {
            c.due("light(" + lamp + ", 1)", x.light(lamp, 1), -1);
        }
        c.due("none is lit", x.count(5), 0);
        c.due("no ACT", x.count(4), 0);
        x.plate(36, 3, 6);
        c.due("light(36, 1)", x.light(36, 1), -1);
    }

    static void p08TooMuch() {
        SentencesTest.holds("Promise 8", "or not 0 .. m - 1.");
        for (int m = 2; m <= 12; m++) {
            LampPlate x = Plates.made(4, m, 2);
            x.light(3, m - 1);
            for (int v : new int[] {MIN, -1, m, m + 1, MAX}) {
                c.due("light(3, " + v + ") of " + m, x.light(3, v), -1);
            }
            c.due("it stays", x.shown(3), m - 1);
            c.due("no ACT", x.count(4), 1);
        }
    }

    // Promise 9: push

    static void p09HowManyLamps() {
        SentencesTest.holds("Promise 9", "A button is pushed so many times (0 .. 1000000): how many lamps SHOW another number then.");
        LampPlate x = Plates.made(4, 12, 2);
        x.button(1, 0, 11, 0);
        x.button(1, 3, 6, 0);
        x.button(0, 0, 0, 0);
        c.due("push(0, 0)", x.push(0, 0), 0);
        c.due("push(0, 1)", x.push(0, 1), 3);
        c.shown("11", x, 11, 11, 11, 0);
        c.due("push(0, 12)", x.push(0, 12), 0);
        c.due("push(0, 999999)", x.push(0, 999999), 3);
        c.shown("11 and 3 times 11", x, 8, 8, 8, 0);
        c.due("push(0, 1000000)", x.push(0, 1000000), 3);
        c.shown("8 and 4 times 11", x, 4, 4, 4, 0);
        c.due("push(1, 1000000)", x.push(1, 1000000), 0);
        c.due("push(1, 999999)", x.push(1, 999999), 3);
        c.shown("6 more", x, 4, 10, 10, 6);
        c.due("push(2, 1000000)", x.push(2, 1000000), 0);
        Plates.wire(x, 2, 6, 4, 3, 0);
        c.due("those that come to what they were don't count", x.push(2, 2), 2);
        c.shown("two", x, 4, 6, 4, 6);
        c.due("ACTS", x.count(4), 13);
    }

    static void p09MostOfAll() {
        SentencesTest.holds("Promise 9", "A button is pushed so many times (0 .. 1000000): how many lamps SHOW another number then.");
        for (int m = 2; m <= 12; m++) {
            LampPlate x = Plates.made(36, m, 36);
            x.button(2, 0, m - 1, 0);
            long sum = 1000000L * (m - 1) % m;
            c.due("push(0, 1000000) of " + m, x.push(0, 1000000), sum == 0 ? 0 : 36);
            c.due("shown(35) of " + m, x.shown(35), sum);
        }
    }

    static void p09NoButton() {
        SentencesTest.holds("Promise 9", "NONE: no such button,");
        LampPlate x = Plates.made(4, 3, 2);
        c.due("without any", x.push(0, 0), -1);
        x.button(1, 0, 1, 0);
        for (int button : new int[] {MIN, -1, 1, 36, MAX}) {
            c.due("push(" + button + ", 1)", x.push(button, 1), -1);
        }
        c.due("none is lit", x.count(5), 0);
        c.due("no ACT", x.count(4), 1);
    }

    static void p09Stuck() {
        SentencesTest.holds("Promise 9", "a STUCK one,");
        LampPlate x = Plates.made(4, 3, 2);
        x.button(3, 0, 1, 0);
        x.button(3, 100, 0, 0);
        for (int times : new int[] {0, 1, 3, 1000000}) {
            c.due("push(0, " + times + ")", x.push(0, times), -1);
            c.due("push(1, " + times + ")", x.push(1, times), -1);
        }
        c.due("none is lit", x.count(5), 0);
        c.due("no ACT", x.count(4), 2);
    }

    static void p09OtherTimes() {
        SentencesTest.holds("Promise 9", "other times.");
        LampPlate x = Plates.made(4, 3, 2);
        x.button(1, 0, 1, 0);
        for (int times : new int[] {MIN, -3, -1, 1000001, MAX}) {
            c.due("push(0, " + times + ")", x.push(0, times), -1);
        }
        c.due("none is lit", x.count(5), 0);
        c.due("no ACT", x.count(4), 1);
    }

    // Promise 10: chase

    static void p10RowByRow() {
        SentencesTest.holds("Promise 10", "Row by row, from the second one on, each lamp whose upper neighbour SHOWS v, not 0, has its button pushed m - v times: how many pushes.");
        LampPlate x = Plates.crosses(5, 3, 2);
        Plates.light(x, 1, 2, 0, 0, 2);
        c.due("chase()", x.chase(), 2 + 1);
        c.shown("chased", x, 0, 0, 0, 0, 1);
        c.due("an ACT", x.count(4), 11);
        c.due("chase() again", x.chase(), 0);
        c.due("an ACT", x.count(4), 12);
        x.undo();
        c.due("undo()", x.undo(), 10);
        c.shown("not chased", x, 1, 2, 0, 0, 2);
        LampPlate column = Plates.crosses(4, 12, 1);
        Plates.light(column, 1, 0, 0, 0);
        c.due("one is 11 pushes, then 1, then none", column.chase(), 11 + 1);
        c.shown("chased", column, 0, 0, 0, 1);
        LampPlate row = Plates.crosses(36, 2, 36);
        row.light(35, 1);
        c.due("without a second row", row.chase(), 0);
        c.due("it stays", row.count(5), 1);
        c.due("of one lamp", Plates.crosses(1, 2, 1).chase(), 0);
    }

    static void p10NotAsMany() {
        SentencesTest.holds("Promise 10", "NONE: there are not just as many buttons as lamps,");
        c.due("no buttons", new LampPlate().chase(), -1);
        LampPlate x = Plates.crosses(3, 3, 1);
        x.light(0, 1);
        x.button(1, 0, 1, 0);
        c.due("one too many", x.chase(), -1);
        c.due("no ACT", x.count(4), 5);
        x.undo();
        c.due("as many", x.chase(), 2 + 1);
        x.undo();
        x.undo();
        x.undo();
        c.due("one too few", x.chase(), -1);
        c.due("no ACT", x.count(4), 2);
    }

    static void p10NotTheCrosses() {
        SentencesTest.holds("Promise 10", "the n-th a CROSS (KIND 1) of lamp n that adds 1, for all n.");
        for (int odd = 0; odd < 3; odd++) {
            c.due("adds 2", withOdd(odd, 1, odd, 2).chase(), -1);
            c.due("adds 0", withOdd(odd, 1, odd, 0).chase(), -1);
            c.due("another lamp's", withOdd(odd, 1, (odd + 1) % 3, 1).chase(), -1);
            c.due("a PLAIN one", withOdd(odd, 0, odd, 1).chase(), -1);
            c.due("a LINE", withOdd(odd, 2, odd, 1).chase(), -1);
            c.due("a STUCK one", withOdd(odd, 3, odd, 1).chase(), -1);
            c.due("a CROSS", withOdd(odd, 1, odd, 1).chase(), 3);
        }
        for (int odd = 1; odd < 3; odd++) {
            c.due("a TWIN", withOdd(odd, 4, odd, 1).chase(), -1);
        }
        LampPlate x = withOdd(2, 1, 2, 2);
        x.chase();
        c.due("no ACT", x.count(4), 4);
        c.due("shown(0)", x.shown(0), 1);
    }

    /** Three lamps in a column, the first one lit, and three buttons, all but one as they are due. */
    private static LampPlate withOdd(int odd, int kind, int a, int b) {
        LampPlate x = Plates.made(3, 3, 1);
        for (int lamp = 0; lamp < 3; lamp++) {
            if (lamp == odd) {
                x.button(kind, a, b, 0);
            } else {
                x.button(1, lamp, 1, 0);
            }
        }
        c.due("buttons", x.count(3), 3);
        x.light(0, 1);
        return x;
    }

    // Promise 11: undo

    static void p11TakenBack() {
        SentencesTest.holds("Promise 11", "The latest ACT is taken back: how many more can be;");
        LampPlate x = Plates.crosses(4, 5, 2);
        Plates.light(x, 1, 2, 0, 1);
        c.due("light() was one", x.undo(), 7);
        c.shown("not lit", x, 1, 2, 0, 0);
        c.due("chase()", x.chase(), 4 + 3);
        c.due("undo()", x.undo(), 7);
        c.shown("not chased", x, 1, 2, 0, 0);
        c.due("push()", x.push(0, 1), 3);
        c.due("undo()", x.undo(), 7);
        c.shown("not pushed", x, 1, 2, 0, 0);
        c.due("can()", x.can(), 1);
        c.due("apply()", x.apply(), 2);
        c.due("undo()", x.undo(), 7);
        c.shown("not applied", x, 1, 2, 0, 0);
        x.cost(3, 9);
        c.due("undo()", x.undo(), 7);
        c.due("cost()", x.cost(3, 1), 1);
        Plates.plain(x, 1, 2);
        Plates.wire(x, 4, 0, 0, 2, 2);
        c.due("undo()", x.undo(), 10);
        c.steps(x, 4, 1, 2, 0, 0);
        x.element(0, 0);
        c.due("a QUIET pushing of it", x.row(4), 1);
        c.due("others are pushed with it", x.row(0) + x.row(1) + x.row(2) + x.row(3) > 0, true);
        c.due("undo()", x.undo(), 9);
        c.steps(x, 4, 0, 0, 0, 0);
        x.element(0, 0);
        c.row("QUIET by itself", x, 0, 0, 0, 0, 1);
        c.due("undo()", x.undo(), 8);
        c.due("no QUIET ones then", x.base(0), 0);
        c.due("no button then", x.step(4, 0), -1);
        c.due("buttons", x.count(3), 4);
        c.due("can() by the buttons that there are", x.can(), 1);
        c.due("row(4)", x.row(4), -1);
        for (int left = 7; left >= 0; left--) {
            c.due("undo()", x.undo(), left);
        }
        c.due("buttons", x.count(3), 0);
    }

    static void p11WithoutOne() {
        SentencesTest.holds("Promise 11", "NONE without one.");
        LampPlate x = new LampPlate();
        c.due("of a new object", x.undo(), -1);
        x.light(0, 1);
        c.due("of one ACT", x.undo(), 0);
        c.due("of none any more", x.undo(), -1);
        c.due("again", x.undo(), -1);
        c.due("shown(0)", x.shown(0), 0);
        c.due("ACTS", x.count(4), 0);
        x.light(0, 1);
        c.due("one again", x.undo(), 0);
    }

    // Promise 12: keep

    static void p12Kept() {
        SentencesTest.holds("Promise 12", "The PLATE (its buttons, costs, what is SHOWN) is kept,");
        LampPlate x = Plates.made(5, 5, 3);
        x.button(3, 101, 2, 0);
        Plates.plain(x, 1, 2, 3);
        x.button(4, 1, 1, 1);
        Plates.plain(x, 0, 0, 0, 0, 4);
        x.cost(2, 77);
        Plates.light(x, 4, 3, 2, 1, 0);
        c.due("keep()", x.keep(), true);
        c.due("it is no ACT and ends none", x.count(4), 12);
        spoil(x);
        c.due("back()", x.back(), true);
        int[] want = {5, 5, 3, 4, 0, 4, 10, -1};
        for (int what = 0; what < want.length; what++) {
            c.due("count(" + what + ")", x.count(what), want[what]);
        }
        c.shown("kept", x, 4, 3, 2, 1, 0);
        c.steps(x, 0, 0, 2, 0, 0, 2);
        c.steps(x, 1, 1, 2, 3, 0, 0);
        c.steps(x, 2, 2, 3, 4, 0, 1);
        c.steps(x, 3, 0, 0, 0, 0, 4);
        c.due("cost(1, 1)", x.cost(1, 1), 1);
        c.due("cost(2, 1)", x.cost(2, 1), 77);
        c.due("a STUCK one", x.push(0, 1), -1);
        Plates.wire(x, 1, 0, 0, 0, 4, 0);
        c.steps(x, 2, 1, 1, 1, 4, 1);
    }

    /** The largest plate, with TWINS of a button that has steps everywhere. */
    private static void spoil(LampPlate x) {
        x.plate(36, 12, 36);
        x.button(2, 0, 11, 0);
        for (int button = 1; button < 36; button++) {
            x.button(4, button, 11, 0);
        }
        x.push(35, 1);
        x.base(0);
    }

    static void p12TheLastPlainOne() {
        SentencesTest.holds("Promise 12", "The PLATE (its buttons, costs, what is SHOWN) is kept,");
        LampPlate x = Plates.made(36, 12, 6);
        for (int button = 0; button < 36; button++) {
            x.button(0, 0, 0, 0);
        }
        x.board(1, 36);
        for (int lamp = 0; lamp < 36; lamp++) {
            x.entry(lamp, lamp + 1);
        }
        x.wire(35);
        x.cost(35, 1000);
        x.light(35, 11);
        x.keep();
        spoil(x);
        x.back();
        for (int lamp = 0; lamp < 36; lamp++) {
            c.due("step(35, " + lamp + ")", x.step(35, lamp), (lamp + 1) % 12);
        }
        c.due("step(34, 35)", x.step(34, 35), 0);
        c.due("shown(34)", x.shown(34), 0);
        c.due("shown(35)", x.shown(35), 11);
        c.due("cost(34, 1)", x.cost(34, 1), 1);
        c.due("cost(35, 1)", x.cost(35, 1), 1000);
    }

    static void p12InPlace() {
        SentencesTest.holds("Promise 12", "in place of the one that is: true.");
        LampPlate x = Plates.made(2, 5, 1);
        c.due("keep()", x.keep(), true);
        x.plate(3, 4, 1);
        c.due("keep() in place", x.keep(), true);
        x.light(0, 3);
        c.due("keep() twice", x.keep(), true);
        x.light(0, 1);
        x.plate(1, 2, 1);
        x.back();
        c.shown("the latest one", x, 3, 0, 0);
        c.due("colours", x.count(1), 4);
        c.due("of a new object", new LampPlate().keep(), true);
    }

    // Promise 13: back

    static void p13IsTheOneKept() {
        SentencesTest.holds("Promise 13", "The PLATE is the one that is kept: true;");
        LampPlate x = Plates.made(2, 5, 1);
        x.button(1, 0, 1, 0);
        x.keep();
        for (int i = 1; i <= 3; i++) {
            x.push(0, 1);
            x.cost(0, 100 + i);
            x.button(1, 1, 1, 0);
            x.board(0, i);
            x.tell(i);
            c.due("back()", x.back(), true);
            c.shown("as it was kept", x, 0, 0);
            c.due("buttons", x.count(3), 1);
            c.due("ACTS", x.count(4), 0);
            c.due("undo()", x.undo(), -1);
            c.due("its cost", x.cost(0, 5), 1);
            c.due("the board stays", x.count(7), i);
        }
        c.due("THE LIST stays", x.tell(0), 4);
        c.due("back() at once", x.back(), true);
        c.due("can() by its buttons", x.can(), 1);
        c.row("of one button", x, 0);
        x.light(0, 1);
        c.due("what is kept stays as it was", x.back(), true);
        c.shown("as it was kept", x, 0, 0);
        x.plate(5, 2, 1);
        c.due("WEIGHTS of another plate", x.base(1), 5);
        x.back();
        c.due("WEIGHTS of the one that is kept", x.base(1), 1);
        c.due("patterns of the one that is kept", x.primes(0, 5), 1);
    }

    static void p13WithoutOne() {
        SentencesTest.holds("Promise 13", "false without one.");
        LampPlate x = new LampPlate();
        c.due("of a new object", x.back(), false);
        x.plate(3, 4, 2);
        x.light(2, 3);
        c.due("behind plate()", x.back(), false);
        c.shown("as it was", x, 0, 0, 3);
        c.due("ACTS", x.count(4), 1);
        x.keep();
        c.due("behind keep()", x.back(), true);
    }

    // Promise 14: count

    static void p14Sizes() {
        SentencesTest.holds("Promise 14", "What 0: LAMPS, 1: COLOURS, 2: WIDTH, 3: buttons,");
        LampPlate x = Plates.made(36, 12, 35);
        for (int button = 0; button < 36; button++) {
            c.due("count(3)", x.count(3), button);
            x.button(1, button, 1, 0);
        }
        c.due("count(0)", x.count(0), 36);
        c.due("count(1)", x.count(1), 12);
        c.due("count(2)", x.count(2), 35);
        c.due("count(3)", x.count(3), 36);
    }

    static void p14Acts() {
        SentencesTest.holds("Promise 14", "4: ACTS that can be taken back,");
        LampPlate x = new LampPlate();
        for (int i = 0; i <= 62; i++) {
            c.due("count(4)", x.count(4), Math.min(60, i));
            x.light(0, 1);
        }
        x.undo();
        c.due("count(4)", x.count(4), 59);
        c.due("undo() says the same", x.undo(), 58);
        c.due("count(4)", x.count(4), 58);
    }

    static void p14Lit() {
        SentencesTest.holds("Promise 14", "5: lamps that do not SHOW 0,");
        LampPlate x = Plates.made(36, 12, 6);
        for (int lamp = 0; lamp < 36; lamp++) {
            c.due("count(5)", x.count(5), lamp);
            x.light(lamp, 1 + lamp % 11);
        }
        c.due("count(5)", x.count(5), 36);
        x.plate(2, 12, 1);
        c.due("of a new plate", x.count(5), 0);
    }

    static void p14Sum() {
        SentencesTest.holds("Promise 14", "6: the sum of all that is SHOWN,");
        LampPlate x = Plates.made(36, 12, 6);
        for (int lamp = 0; lamp < 36; lamp++) {
            c.due("count(6)", x.count(6), 11 * lamp);
            x.light(lamp, 11);
        }
        c.due("count(6), not by m", x.count(6), 396);
        x.plate(2, 12, 1);
        c.due("of a new plate", x.count(6), 0);
    }

    static void p14Entries() {
        SentencesTest.holds("Promise 14", "7: entries of the board (0 of a missing one; NONE without).");
        LampPlate x = Plates.made(4, 3, 2);
        c.due("without", x.count(7), -1);
        x.board(3, 80);
        c.due("80", x.count(7), 80);
        x.board(1, 0);
        c.due("0", x.count(7), 0);
        x.board(4, 80);
        c.due("a missing one", x.count(7), 0);
        x.button(0, 0, 0, 0);
        x.wire(0);
        c.due("without", x.count(7), -1);
    }

    static void p14AnotherWhat() {
        SentencesTest.holds("Promise 14", "NONE for another what.");
        LampPlate x = new LampPlate();
        for (int what : new int[] {MIN, -1, 8, 9, MAX}) {
            c.due("count(" + what + ")", x.count(what), -1);
        }
    }

    // Promise 15: shown

    static void p15Shows() {
        SentencesTest.holds("Promise 15", "What a lamp SHOWS;");
        LampPlate x = Plates.made(36, 12, 6);
        for (int lamp = 0; lamp < 36; lamp++) {
            x.light(lamp, lamp % 12);
        }
        for (int lamp = 0; lamp < 36; lamp++) {
            c.due("shown(" + lamp + ")", x.shown(lamp), lamp % 12);
        }
    }

    static void p15NoneSuch() {
        SentencesTest.holds("Promise 15", "NONE if there is none such.");
        LampPlate x = Plates.made(36, 12, 6);
        for (int lamp : new int[] {MIN, -1, 36, 37, MAX}) {
            c.due("shown(" + lamp + ") of 36", x.shown(lamp), -1);
        }
        x.light(35, 1);
        x.plate(3, 2, 1);
        for (int lamp = 3; lamp <= 36; lamp++) {
            c.due("shown(" + lamp + ") of 3", x.shown(lamp), -1);
        }
    }

    // Promise 16: step

    static void p16Steps() {
        SentencesTest.holds("Promise 16", "A button's STEPS at a lamp;");
        LampPlate x = Plates.made(4, 12, 2);
        Plates.plain(x, 0, 11, 1, 10);
        x.button(1, 3, 11, 0);
        x.button(2, 1, 10, 0);
        x.button(3, 100, 9, 0);
        x.button(4, 0, 11, 0);
        c.steps(x, 0, 0, 11, 1, 10);
        c.steps(x, 1, 0, 11, 11, 11);
        c.steps(x, 2, 0, 0, 10, 10);
        c.steps(x, 3, 9, 0, 9, 0);
        c.steps(x, 4, 11, 10, 0, 10);
    }

    static void p16NoneSuch() {
        SentencesTest.holds("Promise 16", "NONE if there is none such.");
        LampPlate x = Plates.made(4, 12, 2);
        c.due("without buttons", x.step(0, 0), -1);
        x.button(2, 0, 1, 0);
        for (int v : new int[] {MIN, -1, 4, 36, MAX}) {
            c.due("step(0, " + v + ")", x.step(0, v), -1);
            c.due("step(" + v + ", 0)", x.step(v, 0), -1);
            c.due("step(" + v + ", " + v + ")", x.step(v, v), -1);
        }
        c.due("step(1, 0)", x.step(1, 0), -1);
        c.due("step(0, 3)", x.step(0, 3), 0);
        x.undo();
        c.due("of one taken back", x.step(0, 0), -1);
    }
}
