/** Promises 17 to 27 of the document, sentence by sentence, at their edges. */
final class PushingSentences {
    private static final int MIN = Plates.MIN;
    private static final int MAX = Plates.MAX;
    private static final Checks c = SentencesTest.c;

    private PushingSentences() {
    }

    // Promise 17: can

    static void p17First() {
        SentencesTest.holds("Promise 17", "Whether the pattern SHOWN CAN be: 1, and the FIRST pushing for it is the ROW;");
        LampPlate x = Plates.made(2, 6, 2);
        Plates.plain(x, 2, 0);
        Plates.plain(x, 3, 0);
        x.button(3, 0, 1, 0);
        Plates.plain(x, 0, 1);
        Plates.light(x, 1, 5);
        c.due("can()", x.can(), 1);
        // 2p + 3q = 1 by 6: q is 1, 3 or 5, p is 2 or 5
        c.row("the first", x, 2, 1, 0, 5);
        c.due("can() is no ACT", x.count(4), 9);
        c.due("can() again", x.can(), 1);
        c.row("the same", x, 2, 1, 0, 5);
        c.due("without buttons, all dark", new LampPlate().can(), 1);
        LampPlate full = Plates.dots(36, 12);
        full.light(0, 1);
        full.light(35, 11);
        c.due("can() of 36", full.can(), 1);
        c.due("row(0)", full.row(0), 1);
        c.due("row(34)", full.row(34), 0);
        c.due("row(35)", full.row(35), 11);
        c.due("row(36)", full.row(36), -1);
        LampPlate many = Plates.idle(36, 12);
        c.due("can() is never SPENT", many.can(), 1);
        c.due("row(35)", many.row(35), 0);
    }

    static void p17Why() {
        SentencesTest.holds("Promise 17", "0, and WHY is the ROW.");
        LampPlate x = new LampPlate();
        x.light(0, 1);
        c.due("without buttons", x.can(), 0);
        c.row("why", x, 1);
        x.button(3, 0, 1, 0);
        c.due("of a STUCK one alone", x.can(), 0);
        c.row("why", x, 1);
        LampPlate full = Plates.dots(36, 12);
        full.undo();
        full.light(0, 5);
        full.light(35, 11);
        c.due("can()", full.can(), 0);
        for (int lamp = 0; lamp <= 36; lamp++) {
            c.due("row(" + lamp + ")", full.row(lamp), lamp < 35 ? 0 : lamp == 35 ? 1 : -1);
        }
        c.due("can() is no ACT", full.count(4), 37);
        LampPlate many = Plates.idle(36, 12);
        many.light(0, 6);
        c.due("can() is never SPENT", many.can(), 0);
        c.row("why", many, 1);
    }

    // Promise 18: next

    static void p18Next() {
        SentencesTest.holds("Promise 18", "The next pushing for the pattern, in ORDER, behind the ROW: 1, and it is the ROW;");
        LampPlate x = Plates.made(1, 4, 1);
        Plates.plain(x, 2);
        x.button(3, 0, 1, 0);
        Plates.plain(x, 1);
        x.light(0, 3);
        c.due("can()", x.can(), 1);
        int[][] all = {{1, 0, 1}, {3, 0, 1}, {0, 0, 3}, {2, 0, 3}};
        for (int i = 0; i < all.length; i++) {
            c.row("number " + i, x, all[i]);
            c.due("next()", x.next(), i + 1 < all.length ? 1 : 0);
        }
        c.due("next() is no ACT", x.count(4), 6);
        LampPlate many = Plates.idle(36, 12);
        many.can();
        for (int i = 1; i <= 150; i++) {
            c.due("next() is never SPENT", many.next(), 1);
        }
        c.due("row(0)", many.row(0), 150 % 12);
        c.due("row(1)", many.row(1), 150 / 12 % 12);
        c.due("row(2)", many.row(2), 150 / 144);
        c.due("row(35)", many.row(35), 0);
        LampPlate large = idleOf36();
        large.can();
        for (int i = 1; i <= 13; i++) {
            c.due("next() of 36 lamps and 36 buttons", large.next(), 1);
        }
        c.due("row(0)", large.row(0), 1);
        c.due("row(1)", large.row(1), 1);
        c.due("row(2)", large.row(2), 0);
    }

    /** The most lamps and buttons, none of which changes any. */
    private static LampPlate idleOf36() {
        LampPlate x = Plates.made(36, 12, 6);
        for (int button = 0; button < 36; button++) {
            x.button(0, 0, 0, 0);
        }
        return x;
    }

    static void p18TheLastOne() {
        SentencesTest.holds("Promise 18", "0 if that was the last one (the ROW stays).");
        LampPlate x = Plates.idle(1, 3);
        c.due("can()", x.can(), 1);
        c.due("next()", x.next(), 1);
        c.due("next()", x.next(), 1);
        for (int i = 0; i < 3; i++) {
            c.due("next() behind the last", x.next(), 0);
            c.row("stays", x, 2);
        }
        c.due("can()", x.can(), 1);
        c.row("from the first again", x, 0);
        c.due("next()", x.next(), 1);
        c.row("the second", x, 1);
        LampPlate only = Plates.dots(2, 3);
        Plates.light(only, 2, 1);
        c.due("can()", only.can(), 1);
        c.due("there is one alone", only.next(), 0);
        c.row("stays", only, 2, 1);
        LampPlate none = new LampPlate();
        c.due("can() without buttons", none.can(), 1);
        c.due("there is one alone", none.next(), 0);
        c.due("again", none.next(), 0);
    }

    static void p18NotToldByCan() {
        SentencesTest.holds("Promise 18", "NONE: the ROW was not told by can() with 1 or by next(),");
        c.due("nothing told", Plates.idle(2, 2).next(), -1);
        LampPlate x = ready();
        c.due("element(0, 0)", x.element(0, 0), 1);
        c.due("next() behind element()", x.next(), -1);
        x = ready();
        c.due("element(1, 0)", x.element(1, 0), 1);
        c.due("next() behind element()", x.next(), -1);
        x = ready();
        c.due("least()", x.least(), 0);
        c.due("next() behind least()", x.next(), -1);
        x = ready();
        c.due("worst()", x.worst(), 0);
        c.due("next() behind worst()", x.next(), -1);
        x = ready();
        x.light(0, 1);
        c.due("can()", x.can(), 0);
        c.due("next() behind can() with 0", x.next(), -1);
        c.row("stays", x, 1);
        x = ready();
        x.least();
        x.can();
        c.due("next() behind a new can()", x.next(), 1);
    }

    /** Calls that tell no ROW and are no ACTS leave it the one that can() told. */
    static void p18StillToldByCan() {
        SentencesTest.holds("Promise 18", "NONE: the ROW was not told by can() with 1 or by next(),");
        LampPlate x = ready();
        x.keep();
        x.board(0, 1);
        x.entry(0, 1);
        x.tell(1);
        x.check(0);
        x.check(1);
        x.primes(0, 3);
        x.base(0);
        x.base(1);
        x.count(4);
        x.shown(0);
        x.step(0, 0);
        c.due("next()", x.next(), 1);
        c.due("element(0, 2)", x.element(0, 2), -1);
        c.due("element(1, 1)", x.element(1, 1), -1);
        c.due("element(2, 0)", x.element(2, 0), -1);
        c.due("next()", x.next(), 1);
        c.row("the third", x, 2, 0);
        LampPlate many = Plates.idle(17, 2);
        many.can();
        c.due("least()", many.least(), -2);
        c.due("worst()", many.worst(), -2);
        c.due("next() behind what is SPENT", many.next(), 1);
    }

    static void p18AnAct() {
        SentencesTest.holds("Promise 18", "or an ACT,");
        LampPlate x = ready();
        x.light(0, 0);
        c.due("light()", x.next(), -1);
        x = ready();
        x.push(0, 0);
        c.due("push()", x.next(), -1);
        x = ready();
        x.cost(0, 1);
        c.due("cost()", x.next(), -1);
        x = ready();
        x.wire(0);
        c.due("wire()", x.next(), -1);
        x = ready();
        x.button(0, 0, 0, 0);
        c.due("button()", x.next(), -1);
        x = ready();
        x.apply();
        c.due("apply()", x.next(), -1);
        c.row("stays", x, 0, 0);
        x = Plates.crosses(1, 3, 1);
        x.can();
        x.chase();
        c.due("chase()", x.next(), -1);
        x = ready();
        x.next();
        x.light(0, 0);
        c.due("behind next()", x.next(), -1);
        x = ready();
        x.light(1, 0);
        x.light(0, 3);
        x.push(2, 0);
        x.push(0, -1);
        x.cost(0, 1001);
        x.wire(2);
        x.button(1, 1, 0, 0);
        x.chase();
        c.due("refused ones are no ACTS", x.next(), 1);
    }

    static void p18Undo() {
        SentencesTest.holds("Promise 18", "undo(),");
        LampPlate x = ready();
        x.undo();
        c.due("undo()", x.next(), -1);
        x = ready();
        x.light(0, 1);
        x.undo();
        c.due("an ACT and undo()", x.next(), -1);
        x = Plates.idle(1, 2);
        x.keep();
        x.back();
        x.can();
        c.due("undo() refused", x.undo(), -1);
        c.due("next()", x.next(), 1);
    }

    static void p18Plate() {
        SentencesTest.holds("Promise 18", "plate(),");
        LampPlate x = ready();
        c.due("plate() refused", x.plate(1, 13, 1), false);
        c.due("next()", x.next(), 1);
        x.plate(1, 3, 1);
        c.due("plate()", x.next(), -1);
        c.row("stays", x, 1, 0);
    }

    static void p18Back() {
        SentencesTest.holds("Promise 18", "back() was done since.");
        LampPlate x = ready();
        c.due("back() refused", x.back(), false);
        c.due("next()", x.next(), 1);
        x.keep();
        c.due("keep() ends nothing", x.next(), 1);
        x.back();
        c.due("back()", x.next(), -1);
        c.row("stays", x, 2, 0);
    }

    /** Two buttons that do nothing, a missing board, and a dark lamp: can() has told the ROW. */
    private static LampPlate ready() {
        LampPlate x = Plates.idle(2, 3);
        x.board(4, 0);
        c.due("can()", x.can(), 1);
        return x;
    }

    // Promise 19: row

    static void p19ToldLatest() {
        SentencesTest.holds("Promise 19", "Number i of the ROW that was told latest (by a call that says so):");
        LampPlate x = Plates.made(2, 4, 2);
        Plates.plain(x, 2, 0);
        Plates.plain(x, 2, 0);
        x.light(0, 2);
        x.can();
        c.row("can()", x, 1, 0);
        x.next();
        c.row("next()", x, 3, 0);
        x.element(0, 1);
        c.row("element()", x, 2, 0);
        x.cost(0, 7);
        x.least();
        c.row("least()", x, 0, 1);
        x.worst();
        c.row("worst()", x, 2, 0);
        x.element(1, 1);
        c.row("element()", x, 0, 1);
        x.light(0, 1);
        x.can();
        c.row("can() with 0", x, 2, 0);
        c.due("least() that says none", x.least(), -1);
        x.element(0, 9);
        x.tell(1);
        x.check(0);
        x.push(0, 1);
        x.apply();
        x.next();
        x.undo();
        x.keep();
        x.plate(1, 2, 1);
        x.back();
        c.row("stays through all others", x, 2, 0);
    }

    static void p19ByButtons() {
        SentencesTest.holds("Promise 19", "of a pushing by buttons,");
        LampPlate x = Plates.made(1, 5, 1);
        for (int button = 0; button < 3; button++) {
            x.button(1, 0, 1, 0);
        }
        x.light(0, 4);
        x.can();
        c.row("can()", x, 4, 0, 0);
        x.next();
        c.row("next()", x, 3, 1, 0);
        x.least();
        c.row("least()", x, 4, 0, 0);
        x.element(0, 0);
        c.row("element()", x, 4, 0, 1);
        x.button(1, 0, 1, 0);
        c.row("a later button is not in it", x, 4, 0, 1);
    }

    static void p19ByLamps() {
        SentencesTest.holds("Promise 19", "of weights and patterns by lamps;");
        LampPlate x = Plates.made(3, 5, 3);
        x.button(1, 0, 1, 0);
        x.element(1, 0);
        c.row("weights", x, 1, 4, 0);
        x.worst();
        c.row("a pattern", x, 4, 4, 0);
        x.light(2, 1);
        x.can();
        c.row("why", x, 0, 0, 1);
    }

    static void p19NoneSuch() {
        SentencesTest.holds("Promise 19", "NONE if there is none such.");
        LampPlate x = Plates.idle(36, 2);
        c.due("row(0) before any", x.row(0), -1);
        x.can();
        for (int i : new int[] {MIN, -1, 36, 37, MAX}) {
            c.due("row(" + i + ")", x.row(i), -1);
        }
        c.due("row(35)", x.row(35), 0);
        x.element(1, 0);
        c.due("base(1)", x.base(1), 1);
        c.row("shorter ones than before", x, 1);
        LampPlate none = new LampPlate();
        none.can();
        c.row("of no buttons", none);
    }

    // Promise 20: primes

    /** By 12: button 0 adds 2, 1 adds 3, 2 nothing; 3 is STUCK. So 6 and 4 patterns; 2, 3 and 12 QUIET; and so on. */
    private static LampPlate twelve() {
        LampPlate x = Plates.made(3, 12, 3);
        Plates.plain(x, 2, 0, 0);
        Plates.plain(x, 0, 3, 0);
        Plates.plain(x, 0, 0, 0);
        x.button(3, 0, 1, 0);
        return x;
    }

    private static void primes(LampPlate x, int what, int... want) {
        int[] primes = {2, 3, 5, 7, 11};
        for (int i = 0; i < 5; i++) {
            c.due("primes(" + what + ", " + primes[i] + ")", x.primes(what, primes[i]), want[i]);
        }
    }

    static void p20Patterns() {
        SentencesTest.holds("Promise 20", "How often a prime is in the number of, what 0: patterns that can be,");
        primes(twelve(), 0, 3, 1, 0, 0, 0);
        primes(new LampPlate(), 0, 0, 0, 0, 0, 0);
        primes(Plates.dots(36, 8), 0, 108, 0, 0, 0, 0);
        primes(Plates.dots(36, 10), 0, 36, 0, 36, 0, 0);
        primes(Plates.dots(36, 7), 0, 0, 0, 0, 36, 0);
        primes(Plates.dots(36, 11), 0, 0, 0, 0, 0, 36);
    }

    static void p20Quiet() {
        SentencesTest.holds("Promise 20", "1: QUIET pushings,");
        primes(twelve(), 1, 3, 2, 0, 0, 0);
        primes(new LampPlate(), 1, 0, 0, 0, 0, 0);
        primes(Plates.idle(36, 9), 1, 0, 72, 0, 0, 0);
        primes(Plates.idle(36, 11), 1, 0, 0, 0, 0, 36);
        primes(Plates.dots(36, 12), 1, 0, 0, 0, 0, 0);
    }

    static void p20AllPushings() {
        SentencesTest.holds("Promise 20", "2: all pushings (of buttons that are not STUCK),");
        primes(twelve(), 2, 6, 3, 0, 0, 0);
        primes(new LampPlate(), 2, 0, 0, 0, 0, 0);
        LampPlate x = Plates.idle(35, 10);
        x.button(3, 0, 1, 0);
        primes(x, 2, 35, 0, 35, 0, 0);
        primes(Plates.idle(36, 8), 2, 108, 0, 0, 0, 0);
        LampPlate stuck = Plates.made(1, 7, 1);
        stuck.button(3, 0, 1, 0);
        primes(stuck, 2, 0, 0, 0, 0, 0);
    }

    static void p20Weights() {
        SentencesTest.holds("Promise 20", "3: WEIGHTS.");
        primes(twelve(), 3, 3, 2, 0, 0, 0);
        primes(new LampPlate(), 3, 1, 0, 0, 0, 0);
        primes(Plates.made(36, 12, 1), 3, 72, 36, 0, 0, 0);
        primes(Plates.made(36, 7, 1), 3, 0, 0, 0, 36, 0);
        primes(Plates.dots(36, 12), 3, 0, 0, 0, 0, 0);
    }

    static void p20NoSuchPrime() {
        SentencesTest.holds("Promise 20", "NONE for no such prime,");
        LampPlate x = twelve();
        for (int what = 0; what <= 3; what++) {
            for (int prime : new int[] {MIN, -2, -1, 0, 1, 4, 6, 8, 9, 10, 12, 13, 22, MAX}) {
                c.due("primes(" + what + ", " + prime + ")", x.primes(what, prime), -1);
            }
        }
    }

    static void p20AnotherWhat() {
        SentencesTest.holds("Promise 20", "or another what.");
        LampPlate x = twelve();
        for (int what : new int[] {MIN, -1, 4, 5, MAX}) {
            primes(x, what, -1, -1, -1, -1, -1);
        }
    }

    // Promise 21: base

    static void p21Quiet() {
        SentencesTest.holds("Promise 21", "How many elements the BASE of QUIET pushings (what 0),");
        LampPlate x = Plates.made(2, 6, 1);
        c.due("without buttons", x.base(0), 0);
        Plates.plain(x, 2, 2);
        c.due("3 pushes", x.base(0), 1);
        Plates.plain(x, 0, 1);
        c.due("the second has none", x.base(0), 1);
        x.button(3, 0, 1, 0);
        c.due("a STUCK one has none", x.base(0), 1);
        c.due("36 of them", Plates.idle(36, 2).base(0), 36);
        c.due("none of them", Plates.dots(36, 2).base(0), 0);
    }

    static void p21Weights() {
        SentencesTest.holds("Promise 21", "of WEIGHTS (1) has;");
        LampPlate x = Plates.made(2, 6, 1);
        c.due("without buttons", x.base(1), 2);
        x.button(3, 0, 1, 0);
        c.due("a STUCK one binds none", x.base(1), 2);
        Plates.plain(x, 2, 2);
        c.due("threes", x.base(1), 2);
        Plates.plain(x, 0, 1);
        c.due("one is bound", x.base(1), 1);
        c.due("36 of them", Plates.made(36, 12, 36).base(1), 36);
        c.due("none of them", Plates.dots(36, 12).base(1), 0);
    }

    static void p21AnotherWhat() {
        SentencesTest.holds("Promise 21", "NONE for another what.");
        LampPlate x = twelve();
        for (int what : new int[] {MIN, -1, 2, 3, MAX}) {
            c.due("base(" + what + ")", x.base(what), -1);
        }
    }

    // Promise 22: element

    static void p22IsTheRow() {
        SentencesTest.holds("Promise 22", "Element i of a BASE is the ROW: 1;");
        LampPlate x = Plates.made(1, 6, 1);
        Plates.plain(x, 4);
        Plates.plain(x, 2);
        Plates.plain(x, 3);
        int[][] quiet = {{0, 0, 2}, {1, 1, 0}, {3, 0, 0}};
        for (int i = 2; i >= 0; i--) {
            c.due("element(0, " + i + ")", x.element(0, i), 1);
            c.row("quiet one " + i, x, quiet[i]);
        }
        LampPlate y = Plates.made(3, 4, 3);
        Plates.plain(y, 2, 1, 3);
        int[][] weights = {{1, 0, 2}, {0, 1, 1}};
        for (int i = 1; i >= 0; i--) {
            c.due("element(1, " + i + ")", y.element(1, i), 1);
            c.row("weights " + i, y, weights[i]);
        }
        LampPlate large = Plates.made(36, 12, 36);
        c.due("element(1, 35)", large.element(1, 35), 1);
        c.due("row(34)", large.row(34), 0);
        c.due("row(35)", large.row(35), 1);
        c.due("element() is no ACT", large.count(4), 0);
    }

    static void p22NoneSuch() {
        SentencesTest.holds("Promise 22", "NONE if there is none such.");
        LampPlate x = Plates.made(1, 6, 1);
        Plates.plain(x, 2);
        c.due("element(0, 0)", x.element(0, 0), 1);
        for (int i : new int[] {MIN, -1, 1, 2, 35, 36, MAX}) {
            c.due("element(0, " + i + ")", x.element(0, i), -1);
            c.due("element(1, " + i + ")", x.element(1, i), -1);
        }
        for (int what : new int[] {MIN, -1, 2, 3, MAX}) {
            c.due("element(" + what + ", 0)", x.element(what, 0), -1);
        }
        c.row("stays", x, 3);
        c.due("of an empty BASE of QUIET ones", Plates.dots(3, 5).element(0, 0), -1);
        c.due("of an empty BASE of WEIGHTS", Plates.dots(3, 5).element(1, 0), -1);
        c.due("without buttons", new LampPlate().element(0, 0), -1);
        c.due("36 of 36 QUIET ones", Plates.idle(36, 3).element(0, 36), -1);
        c.due("36 of 36 WEIGHTS", Plates.made(36, 3, 6).element(1, 36), -1);
        LampPlate large = idleOf36();
        for (int what = 0; what <= 1; what++) {
            c.due("element(" + what + ", 35) of 36 lamps and 36 buttons", large.element(what, 35), 1);
            c.due("element(" + what + ", 36) of 36 lamps and 36 buttons", large.element(what, 36), -1);
        }
    }

    // Promise 23: least

    static void p23LeastCost() {
        SentencesTest.holds("Promise 23", "The least COST of a PUSHING for the pattern SHOWN;");
        LampPlate x = Plates.made(2, 4, 2);
        Plates.plain(x, 1, 0);
        Plates.plain(x, 2, 0);
        Plates.plain(x, 3, 0);
        c.due("of the dark", x.least(), 0);
        x.light(0, 3);
        c.due("least()", x.least(), 1);
        x.cost(2, 1000);
        c.due("least()", x.least(), 2);
        x.cost(1, 1000);
        c.due("least()", x.least(), 3);
        x.cost(0, 1000);
        c.due("least()", x.least(), 1000);
        x.cost(0, 0);
        c.due("for nothing", x.least(), 0);
        c.due("least() is no ACT", x.count(4), 11);
        c.due("without buttons", new LampPlate().least(), 0);
        LampPlate y = Plates.dots(36, 12);
        y.light(35, 11);
        y.cost(35, 1000);
        c.due("least()", y.least(), 11000);
    }

    static void p23TheFirst() {
        SentencesTest.holds("Promise 23", "the first such one is the ROW.");
        LampPlate x = Plates.made(1, 4, 1);
        Plates.plain(x, 1);
        Plates.plain(x, 2);
        Plates.plain(x, 3);
        x.light(0, 3);
        x.cost(1, 2);
        x.cost(2, 3);
        c.due("3, 1 and 2, 3", x.least(), 3);
        c.row("the first of three alike", x, 3, 0, 0);
        x.cost(0, 2);
        c.due("3", x.least(), 3);
        c.row("the only one", x, 0, 0, 1);
        LampPlate free = Plates.idle(3, 3);
        free.cost(0, 0);
        free.cost(1, 0);
        free.cost(2, 0);
        c.due("all free", free.least(), 0);
        c.row("the first of all", free, 0, 0, 0);
        free.button(3, 0, 1, 0);
        free.button(1, 0, 1, 0);
        free.light(0, 2);
        c.due("with a STUCK one", free.least(), 2);
        c.row("the STUCK one is 0", free, 0, 0, 0, 0, 2);
    }

    static void p23CannotBe() {
        SentencesTest.holds("Promise 23", "NONE: it can't be;");
        LampPlate x = new LampPlate();
        x.light(0, 1);
        c.due("without buttons", x.least(), -1);
        c.row("nothing told", x);
        x.button(3, 0, 1, 0);
        c.due("of a STUCK one", x.least(), -1);
        LampPlate y = Plates.made(2, 4, 2);
        Plates.plain(y, 2, 0);
        y.light(0, 2);
        c.due("least()", y.least(), 1);
        y.light(0, 1);
        c.due("least()", y.least(), -1);
        c.row("stays", y, 1);
        Plates.light(y, 2, 1);
        c.due("least()", y.least(), -1);
    }

    static void p23Spent() {
        SentencesTest.holds("Promise 23", "SPENT (in this order).");
        LampPlate x = Plates.idle(17, 2);
        c.due("2 to the 17 QUIET ones", x.least(), -2);
        c.row("nothing told", x);
        x.light(0, 1);
        c.due("it can't be, ahead of SPENT", x.least(), -1);
        x.button(1, 0, 1, 0);
        c.due("it can be, SPENT", x.least(), -2);
        x.can();
        c.due("row(17)", x.row(17), 1);
        c.due("SPENT again", x.least(), -2);
        c.due("the ROW stays", x.row(17), 1);
        x.undo();
        x.undo();
        x.undo();
        c.due("2 to the 16", x.least(), 0);
    }

    // Promise 24: worst

    static void p24Greatest() {
        SentencesTest.holds("Promise 24", "The greatest least COST of all patterns that can be;");
        LampPlate x = Plates.made(2, 5, 1);
        Plates.plain(x, 0, 3);
        Plates.plain(x, 0, 1);
        Plates.light(x, 4, 4);
        c.due("worst()", x.worst(), 2);
        x.cost(0, 0);
        c.due("all are free", x.worst(), 0);
        x.cost(0, 1000);
        c.due("4 times 1", x.worst(), 4);
        x.cost(1, 1000);
        c.due("two for 1000", x.worst(), 2000);
        c.due("worst() is no ACT", x.count(4), 9);
        c.due("the pattern SHOWN doesn't matter", x.can(), 0);
        LampPlate half = Plates.made(1, 12, 1);
        Plates.plain(half, 3);
        c.due("0, 3, 6 and 9", half.worst(), 3);
        Plates.plain(half, 8);
        c.due("and 0, 4 and 8", half.worst(), 5);
        c.due("without buttons", new LampPlate().worst(), 0);
        LampPlate y = Plates.dots(4, 12);
        for (int button = 0; button < 4; button++) {
            y.cost(button, 1000);
        }
        c.due("4 times 11 times 1000", y.worst(), 44000);
    }

    static void p24TheFirst() {
        SentencesTest.holds("Promise 24", "the first such pattern (by the less at the first lamp at which they are not alike) is the ROW.");
        LampPlate x = Plates.made(2, 5, 1);
        Plates.plain(x, 0, 3);
        Plates.plain(x, 0, 1);
        c.due("0 2 and 0 4 cost two", x.worst(), 2);
        c.row("the first", x, 0, 2);
        x.cost(0, 0);
        x.worst();
        c.row("all are alike", x, 0, 0);
        LampPlate y = Plates.made(3, 3, 3);
        Plates.plain(y, 1, 1, 0);
        Plates.plain(y, 1, 2, 0);
        Plates.plain(y, 0, 0, 1);
        y.cost(2, 0);
        c.due("2 and 2 pushes", y.worst(), 4);
        c.row("(2 + 2, 2 + 4, 0)", y, 1, 0, 0);
        y.cost(1, 0);
        c.due("2 pushes", y.worst(), 2);
        c.row("0 2 2 0, with one push of the free one", y, 0, 1, 0);
        LampPlate none = Plates.made(36, 12, 6);
        none.light(0, 1);
        none.worst();
        for (int lamp = 0; lamp <= 36; lamp++) {
            c.due("row(" + lamp + ") without buttons", none.row(lamp), lamp < 36 ? 0 : -1);
        }
    }

    static void p24Spent() {
        SentencesTest.holds("Promise 24", "SPENT.");
        LampPlate x = Plates.made(1, 2, 1);
        for (int k = 0; k < 16; k++) {
            x.button(1, 0, 1, 0);
        }
        x.button(3, 0, 1, 0);
        c.due("2 to the 16, a STUCK one doesn't count", x.worst(), 1);
        c.row("lit", x, 1);
        x.button(1, 0, 0, 0);
        c.due("2 to the 17", x.worst(), -2);
        c.row("stays", x, 1);
        x.undo();
        c.due("taken back", x.worst(), 1);
        LampPlate y = Plates.dots(4, 12);
        c.due("12 to the 4", y.worst(), 44);
        y.button(0, 0, 0, 0);
        c.due("12 to the 5", y.worst(), -2);
        y.light(0, 1);
        c.due("least() goes on", y.least(), 1);
        c.due("of 36", Plates.dots(36, 12).worst(), -2);
    }

    // Promise 25: apply

    static void p25IfItIsAPushing() {
        SentencesTest.holds("Promise 25", "The ROW, if it is a pushing");
        LampPlate x = Plates.made(2, 3, 2);
        Plates.plain(x, 1, 0);
        Plates.plain(x, 2, 0);
        x.light(0, 1);
        x.can();
        c.due("of can()", x.apply(), 1);
        x.undo();
        x.can();
        x.next();
        c.due("of next()", x.apply(), 1);
        x.undo();
        x.least();
        c.due("of least()", x.apply(), 1);
        x.undo();
        x.element(0, 0);
        c.due("of element(0, ..)", x.apply(), 0);
        c.due("an ACT", x.count(4), 6);
        c.shown("it was a QUIET one", x, 1, 0);
        LampPlate none = new LampPlate();
        none.can();
        c.due("of no buttons", none.apply(), 0);
        c.due("an ACT", none.count(4), 1);
    }

    static void p25AsManyButtons() {
        SentencesTest.holds("Promise 25", "(of as many buttons as there are now,");
        LampPlate x = Plates.idle(2, 3);
        x.can();
        x.button(0, 0, 0, 0);
        c.due("one more now", x.apply(), -1);
        x.undo();
        c.due("as many again", x.apply(), 0);
        x.undo();
        x.undo();
        c.due("one less now", x.apply(), -1);
        x.plate(1, 3, 1);
        c.due("none now", x.apply(), -1);
        x.button(1, 0, 1, 0);
        x.button(1, 0, 1, 0);
        c.due("as many of another plate", x.apply(), 0);
    }

    static void p25BelowM() {
        SentencesTest.holds("Promise 25", "numbers below m,");
        LampPlate x = Plates.made(1, 12, 1);
        x.button(1, 0, 1, 0);
        x.light(0, 5);
        x.can();
        x.plate(2, 5, 1);
        x.button(1, 0, 1, 0);
        c.due("5 of 5 colours", x.apply(), -1);
        c.due("no ACT", x.count(4), 1);
        x.plate(2, 6, 1);
        x.button(1, 0, 1, 0);
        c.due("5 of 6 colours", x.apply(), 2);
        c.shown("applied", x, 5, 5);
    }

    static void p25Stuck() {
        SentencesTest.holds("Promise 25", "of STUCK ones 0),");
        LampPlate x = Plates.made(1, 3, 1);
        x.button(1, 0, 1, 0);
        x.button(1, 0, 1, 0);
        x.light(0, 2);
        x.can();
        c.row("told", x, 2, 0);
        x.plate(1, 3, 1);
        x.button(3, 0, 1, 0);
        x.button(1, 0, 1, 0);
        c.due("2 of a STUCK one", x.apply(), -1);
        c.due("no ACT", x.count(4), 2);
        x.plate(1, 3, 1);
        x.button(1, 0, 1, 0);
        x.button(3, 0, 1, 0);
        c.due("0 of a STUCK one", x.apply(), 1);
        c.shown("applied", x, 2);
    }

    static void p25HowManyLamps() {
        SentencesTest.holds("Promise 25", "is pushed at once: how many lamps SHOW another number then.");
        LampPlate x = Plates.made(3, 3, 3);
        Plates.plain(x, 1, 1, 0);
        Plates.plain(x, 0, 1, 2);
        Plates.plain(x, 1, 2, 2);
        Plates.light(x, 1, 0, 1);
        x.can();
        c.row("the first", x, 1, 2, 0);
        // Lamp 1 changes by the first button and is changed back by the second: it shows no other number.
        c.due("apply()", x.apply(), 2);
        c.shown("applied", x, 2, 0, 2);
        c.due("one ACT", x.count(4), 10);
        c.due("apply() again", x.apply(), 2);
        c.shown("applied", x, 0, 0, 0);
        c.due("undo()", x.undo(), 10);
        c.shown("not applied", x, 2, 0, 2);
        LampPlate full = Plates.dots(36, 12);
        for (int lamp = 0; lamp < 36; lamp++) {
            full.light(lamp, 11);
        }
        full.can();
        c.due("apply() of 36", full.apply(), 36);
        c.due("all show 10", full.count(6), 360);
    }

    static void p25NoPushing() {
        SentencesTest.holds("Promise 25", "NONE: it is none.");
        c.due("nothing told", new LampPlate().apply(), -1);
        LampPlate x = Plates.made(2, 3, 2);
        Plates.plain(x, 1, 0);
        Plates.plain(x, 2, 0);
        x.worst();
        c.due("a pattern, as long as a pushing", x.apply(), -1);
        x.element(1, 0);
        c.due("weights, as long as a pushing", x.apply(), -1);
        x.light(1, 1);
        c.due("can()", x.can(), 0);
        c.due("why, as long as a pushing", x.apply(), -1);
        c.due("no ACT", x.count(4), 5);
        c.shown("as it was", x, 0, 1);
    }

    // Promise 26: tell

    static void p26HowMany() {
        SentencesTest.holds("Promise 26", "A number comes to THE LIST that is checked: how many it has;");
        LampPlate x = new LampPlate();
        for (int v = 0; v <= 11; v++) {
            c.due("tell(" + v + ")", x.tell(v), v + 1);
        }
        c.due("no ACT", x.count(4), 0);
        c.due("check(0)", x.check(0), 100);
        c.due("tell(1)", x.tell(1), 1);
        c.due("check(1), of this one alone", x.check(1), 300);
    }

    static void p26ThereAre36() {
        SentencesTest.holds("Promise 26", "NONE if there are 36,");
        LampPlate x = Plates.dots(36, 12);
        for (int i = 1; i <= 36; i++) {
            c.due("tell() number " + i, x.tell(0), i);
        }
        c.due("tell() number 37", x.tell(0), -1);
        c.due("tell() number 37", x.tell(1), -1);
        c.due("the 36 are a pushing", x.check(0), -1);
        c.due("then there are none", x.tell(0), 1);
    }

    static void p26TooMuch() {
        SentencesTest.holds("Promise 26", "or v is not 0 .. 11.");
        LampPlate x = Plates.made(2, 2, 1);
        for (int v : new int[] {MIN, -1, 12, 13, MAX}) {
            c.due("tell(" + v + ")", x.tell(v), -1);
        }
        c.due("tell(11), also of two colours", x.tell(11), 1);
        c.due("tell(12)", x.tell(12), -1);
        c.due("tell(0)", x.tell(0), 2);
    }

    // Promise 27: check

    static void p27EmptyThen() {
        SentencesTest.holds("Promise 27", "THE LIST, which is empty then, is looked at,");
        LampPlate x = Plates.dots(2, 3);
        Plates.light(x, 1, 2);
        for (int what = 0; what <= 1; what++) {
            int[][] lists = {{1, 2}, {1, 1}, {1}, {3, 3}, {1, 1, 1}, {}};
            for (int[] list : lists) {
                Plates.tellAndCheck(x, what, list);
                c.due("tell() behind check(" + what + ")", x.tell(0), 1);
                x.check(what);
            }
        }
        c.due("no ACT", x.count(4), 4);
        c.due("no ROW", x.row(0), -1);
    }

    static void p27AsAPushing() {
        SentencesTest.holds("Promise 27", "what 0: as a pushing for the pattern SHOWN,");
        LampPlate x = Plates.made(1, 4, 1);
        Plates.plain(x, 2);
        Plates.plain(x, 1);
        x.light(0, 3);
        for (int v = 0; v < 16; v++) {
            int p = v / 4;
            int q = v % 4;
            c.due("check(0) of " + p + ", " + q, Plates.tellAndCheck(x, 0, p, q), (2 * p + q) % 4 == 3 ? -1 : 300);
        }
        c.due("without buttons, all dark", new LampPlate().check(0), -1);
        LampPlate lit = new LampPlate();
        lit.light(0, 1);
        c.due("without buttons, lit", lit.check(0), 300);
    }

    static void p27AsAReason() {
        SentencesTest.holds("Promise 27", "1: as a reason why it can't be (WEIGHTS under which it is not 0): -1 if it is right;");
        LampPlate x = Plates.made(2, 4, 2);
        Plates.plain(x, 2, 2);
        x.light(0, 1);
        c.due("1 1", Plates.tellAndCheck(x, 1, 1, 1), -1);
        c.due("3 3, not in the BASE", Plates.tellAndCheck(x, 1, 3, 3), -1);
        c.due("2 0", Plates.tellAndCheck(x, 1, 2, 0), -1);
        c.due("0 2", Plates.tellAndCheck(x, 1, 0, 2), 300);
        c.due("can()", x.can(), 0);
        c.due("why", Plates.tellAndCheck(x, 1, x.row(0), x.row(1)), -1);
        LampPlate lit = new LampPlate();
        c.due("without buttons, dark", Plates.tellAndCheck(lit, 1, 1), 300);
        lit.light(0, 1);
        c.due("without buttons, lit", Plates.tellAndCheck(lit, 1, 1), -1);
    }

    static void p27NotAsMany() {
        SentencesTest.holds("Promise 27", "else 100: there are not as many numbers as buttons (lamps),");
        LampPlate x = Plates.made(2, 3, 2);
        Plates.plain(x, 1, 0);
        Plates.plain(x, 2, 0);
        Plates.plain(x, 0, 0);
        c.due("no numbers, 3 buttons", x.check(0), 100);
        c.due("2 numbers, 3 buttons", Plates.tellAndCheck(x, 0, 0, 0), 100);
        c.due("4 numbers, 3 buttons", Plates.tellAndCheck(x, 0, 0, 0, 0, 0), 100);
        c.due("3 numbers, 3 buttons", Plates.tellAndCheck(x, 0, 0, 0, 0), -1);
        c.due("no numbers, 2 lamps", x.check(1), 100);
        c.due("1 number, 2 lamps", Plates.tellAndCheck(x, 1, 0), 100);
        c.due("3 numbers, 2 lamps", Plates.tellAndCheck(x, 1, 0, 0, 0), 100);
        c.due("2 numbers, 2 lamps", Plates.tellAndCheck(x, 1, 0, 0), 300);
        c.due("1 number, no buttons", Plates.tellAndCheck(new LampPlate(), 0, 0), 100);
        c.due("no numbers, 1 lamp", new LampPlate().check(1), 100);
        x.button(3, 0, 1, 0);
        c.due("a STUCK one counts", Plates.tellAndCheck(x, 0, 0, 0, 0), 100);
        c.due("4 numbers, 4 buttons", Plates.tellAndCheck(x, 0, 0, 0, 0, 0), -1);
    }

    static void p27NotBelowM() {
        SentencesTest.holds("Promise 27", "or one is not below m;");
        for (int m = 2; m <= 12; m++) {
            LampPlate x = Plates.made(3, m, 3);
            Plates.plain(x, 0, 0, 1);
            x.button(3, 0, 1, 0);
            Plates.plain(x, 0, 1, 0);
            for (int what = 0; what <= 1; what++) {
                if (m < 12) {
                    c.due("m first", Plates.tellAndCheck(x, what, m, 0, 0), 100);
                    c.due("m last, ahead of 200", Plates.tellAndCheck(x, what, 0, 1, m), 100);
                    c.due("11 last, ahead of 300", Plates.tellAndCheck(x, what, 0, 0, 11), 100);
                }
            }
            c.due("m - 1 of the STUCK one", Plates.tellAndCheck(x, 0, m - 1, m - 1, m - 1), 201);
            c.due("m - 1 of the first", Plates.tellAndCheck(x, 1, m - 1, m - 1, m - 1), 200);
            c.due("m - 1 where nothing binds", Plates.tellAndCheck(x, 1, m - 1, 0, 0), 300);
        }
    }

    static void p27StuckPushed() {
        SentencesTest.holds("Promise 27", "of a pushing: 200 and the first STUCK button that is pushed;");
        LampPlate x = Plates.made(1, 3, 1);
        x.button(3, 0, 1, 0);
        x.button(1, 0, 1, 0);
        x.button(3, 0, 0, 0);
        c.due("the first", Plates.tellAndCheck(x, 0, 1, 2, 0), 200);
        c.due("the third", Plates.tellAndCheck(x, 0, 0, 0, 2), 202);
        c.due("the first of two", Plates.tellAndCheck(x, 0, 2, 0, 2), 200);
        c.due("ahead of a wrong pattern", Plates.tellAndCheck(x, 0, 0, 1, 1), 202);
        c.due("none", Plates.tellAndCheck(x, 0, 0, 0, 0), -1);
        LampPlate last = Plates.idle(35, 2);
        last.button(3, 0, 1, 0);
        for (int button = 0; button < 36; button++) {
            last.tell(1);
        }
        c.due("the 36th", last.check(0), 235);
    }

    static void p27AnotherPattern() {
        SentencesTest.holds("Promise 27", "else 300 and the first lamp at which it makes another pattern;");
        LampPlate x = Plates.dots(36, 3);
        for (int lamp = 0; lamp < 5; lamp++) {
            c.due("lamp " + 7 * lamp, pushOnly(x, 7 * lamp), 300 + 7 * lamp);
        }
        c.due("lamp 35", pushOnly(x, 35), 335);
        c.due("none", pushOnly(x, -1), -1);
        LampPlate y = Plates.made(3, 3, 3);
        Plates.plain(y, 1, 1, 0);
        Plates.plain(y, 0, 1, 1);
        Plates.light(y, 2, 0, 1);
        c.due("2 0 1 made", Plates.tellAndCheck(y, 0, 2, 1), -1);
        c.due("1 0", Plates.tellAndCheck(y, 0, 1, 0), 300);
        c.due("2 0: lamps 1 and 2", Plates.tellAndCheck(y, 0, 2, 0), 301);
        y.light(1, 2);
        c.due("2 0: lamp 2", Plates.tellAndCheck(y, 0, 2, 0), 302);
    }

    private static int pushOnly(LampPlate x, int pushed) {
        for (int button = 0; button < 36; button++) {
            x.tell(button == pushed ? 1 : 0);
        }
        return x.check(0);
    }

    static void p27StepsNotToNought() {
        SentencesTest.holds("Promise 27", "of weights: 200 and the first button (no STUCK one) whose STEPS do not come to 0;");
        LampPlate x = Plates.made(3, 4, 3);
        x.button(3, 0, 1, 0);
        Plates.plain(x, 2, 0, 0);
        Plates.plain(x, 0, 1, 1);
        Plates.light(x, 1, 2, 2);
        c.due("right, whatever the STUCK one's", Plates.tellAndCheck(x, 1, 2, 0, 0), -1);
        c.due("button 1", Plates.tellAndCheck(x, 1, 1, 1, 3), 201);
        c.due("button 2", Plates.tellAndCheck(x, 1, 2, 1, 0), 202);
        c.due("the first of both", Plates.tellAndCheck(x, 1, 1, 1, 0), 201);
        c.due("ahead of 300", Plates.tellAndCheck(x, 1, 0, 1, 1), 202);
        LampPlate last = Plates.idle(35, 2);
        last.button(1, 0, 1, 0);
        last.light(0, 1);
        c.due("the 36th", Plates.tellAndCheck(last, 1, 1), 235);
        last.undo();
        last.undo();
        last.light(0, 1);
        c.due("one taken back doesn't count", Plates.tellAndCheck(last, 1, 1), -1);
        last.button(0, 0, 0, 0);
        c.due("none of 36", Plates.tellAndCheck(last, 1, 1), -1);
    }

    static void p27OfAllLamps() {
        SentencesTest.holds("Promise 27", "of weights: 200 and the first button (no STUCK one) whose STEPS do not come to 0;");
        LampPlate x = Plates.made(36, 2, 36);
        x.button(2, 0, 1, 0);
        x.light(35, 1);
        for (int lamp = 0; lamp < 36; lamp++) {
            x.tell(1);
        }
        c.due("36 ones are even", x.check(1), -1);
        for (int lamp = 0; lamp < 36; lamp++) {
            x.tell(lamp == 35 ? 1 : 0);
        }
        c.due("a single one is odd", x.check(1), 200);
        x.plate(2, 2, 1);
        Plates.plain(x, 1, 1);
        x.light(0, 1);
        Plates.tellAndCheck(x, 1, 0, 0, 1);
        c.due("numbers of an earlier list don't count", Plates.tellAndCheck(x, 1, 1, 1), -1);
    }

    static void p27UnderWhichItIsNought() {
        SentencesTest.holds("Promise 27", "else 300.");
        LampPlate x = Plates.made(3, 4, 3);
        Plates.plain(x, 2, 0, 0);
        Plates.light(x, 2, 3, 3);
        c.due("all 0", Plates.tellAndCheck(x, 1, 0, 0, 0), 300);
        c.due("2 times 2", Plates.tellAndCheck(x, 1, 2, 0, 0), 300);
        c.due("3 and 9", Plates.tellAndCheck(x, 1, 0, 1, 3), 300);
        c.due("3 and 3", Plates.tellAndCheck(x, 1, 0, 1, 1), -1);
        LampPlate dots = Plates.dots(2, 3);
        Plates.light(dots, 1, 2);
        c.due("of a pattern that can be", Plates.tellAndCheck(dots, 1, 0, 0), 300);
    }

    static void p27AnotherWhat() {
        SentencesTest.holds("Promise 27", "-2 for another what (it stays).");
        LampPlate x = Plates.dots(2, 3);
        Plates.light(x, 1, 2);
        Plates.tell(x, 1, 2);
        for (int what : new int[] {MIN, -2, -1, 2, 3, MAX}) {
            c.due("check(" + what + ")", x.check(what), -2);
        }
        c.due("it stays", x.check(0), -1);
        c.due("check(2) of an empty one", x.check(2), -2);
    }
}
