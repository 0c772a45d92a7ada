import java.util.Arrays;

/**
 * 'Terms' 4: what refused calls leave as it is. Of two objects that had the same calls one has a refused call more; then
 * both are asked for all that can be seen of them, and must answer alike.
 */
final class RefusalSentences {
    private static final int MIN = Plates.MIN;
    private static final int MAX = Plates.MAX;
    private static final Checks c = SentencesTest.c;

    private interface Call {
        long on(LampPlate x);
    }

    private interface State {
        LampPlate make();
    }

    private record Refused(String name, long due, Call call) {
    }

    private RefusalSentences() {
    }

    static void t4RefusedInAnyState() {
        SentencesTest.holds("Terms", "Refused calls change nothing;");
        for (State state : new State[] {LampPlate::new, RefusalSentences::busy, RefusalSentences::full, RefusalSentences::settled}) {
            changeNothing(state, refusedAlways());
        }
    }

    static void t4RefusedByANewObject() {
        SentencesTest.holds("Terms", "Refused calls change nothing;");
        changeNothing(LampPlate::new, new Refused[] {
            none("undo()", x -> x.undo()),
            no("back()", x -> x.back() ? 1 : 0),
            none("next()", x -> x.next()),
            none("apply()", x -> x.apply()),
            none("chase()", x -> x.chase()),
            none("wire(0)", x -> x.wire(0)),
            none("cost(0, 1)", x -> x.cost(0, 1)),
            none("push(0, 0)", x -> x.push(0, 0)),
            none("light(1, 0)", x -> x.light(1, 0)),
            none("light(0, 2)", x -> x.light(0, 2)),
            none("button(4, 0, 0, 0)", x -> x.button(4, 0, 0, 0)),
            none("element(0, 0)", x -> x.element(0, 0)),
            no("entry(0, 0)", x -> x.entry(0, 0) ? 1 : 0)});
    }

    static void t4RefusedByABusyPlate() {
        SentencesTest.holds("Terms", "Refused calls change nothing;");
        changeNothing(RefusalSentences::busy, new Refused[] {
            no("plate(4, 3, 5)", x -> x.plate(4, 3, 5) ? 1 : 0),
            none("no lamp 4", x -> x.button(1, 4, 1, 0)),
            none("no row 2", x -> x.button(2, 2, 1, 0)),
            none("no column 2", x -> x.button(3, 102, 1, 0)),
            none("adds 3", x -> x.button(2, 0, 3, 0)),
            none("no button 5", x -> x.button(4, 0, 1, 5)),
            no("entry(5, 1) of 5", x -> x.entry(5, 1) ? 1 : 0),
            none("wire() of a CROSS", x -> x.wire(1)),
            none("wire() of a STUCK one", x -> x.wire(3)),
            none("wire() of no button", x -> x.wire(5)),
            none("cost() of no button", x -> x.cost(5, 2)),
            none("light(0, 3)", x -> x.light(0, 3)),
            none("light(4, 1)", x -> x.light(4, 1)),
            none("push() of a STUCK one", x -> x.push(3, 1)),
            none("push() of no button", x -> x.push(5, 1)),
            none("chase()", x -> x.chase()),
            none("no such element", x -> x.element(0, x.base(0))),
            none("no such weights", x -> x.element(1, x.base(1)))});
    }

    static void t4RefusedByAFullPlate() {
        SentencesTest.holds("Terms", "Refused calls change nothing;");
        changeNothing(RefusalSentences::full, new Refused[] {
            none("a 37th PLAIN one", x -> x.button(0, 0, 0, 0)),
            none("a 37th CROSS", x -> x.button(1, 0, 1, 0)),
            none("a 37th TWIN", x -> x.button(4, 0, 1, 0)),
            none("a 37th number", x -> x.tell(0)),
            no("entry() of a missing board", x -> x.entry(0, 1) ? 1 : 0),
            none("chase()", x -> x.chase()),
            none("light(0, 2)", x -> x.light(0, 2)),
            none("no such element", x -> x.element(0, x.base(0))),
            new Refused("least(), SPENT", -2, x -> x.least()),
            new Refused("worst(), SPENT", -2, x -> x.worst())});
    }

    static void t4RefusedByASettledPlate() {
        SentencesTest.holds("Terms", "Refused calls change nothing;");
        changeNothing(RefusalSentences::settled, new Refused[] {
            none("undo()", x -> x.undo()),
            none("next()", x -> x.next()),
            none("apply()", x -> x.apply()),
            none("least()", x -> x.least()),
            none("wire(0)", x -> x.wire(0)),
            none("push(1, 1) of a STUCK one", x -> x.push(1, 1)),
            no("entry(0, 1)", x -> x.entry(0, 1) ? 1 : 0),
            none("chase()", x -> x.chase())});
    }

    static void t4NoneIsAnswered() {
        SentencesTest.holds("Terms", "NONE (-1) is answered where nothing else is told.");
        c.due("NONE", LampPlate.NONE, -1);
        for (Refused refused : refusedAlways()) {
            c.due(refused.name, refused.call.on(busy()), refused.due);
        }
        c.due("a long NONE", settled().least(), -1L);
    }

    static void t4OthersChangeNothing() {
        SentencesTest.holds("Not promised", "Nothing is promised beyond the answers and state changes described above,");
        Call[] looks = {x -> x.count(4), x -> x.count(5), x -> x.count(7), x -> x.shown(0), x -> x.step(0, 0), x -> x.row(0), x -> x.primes(0, 2),
            x -> x.primes(1, 3), x -> x.primes(2, 2), x -> x.primes(3, 2), x -> x.base(0), x -> x.base(1)};
        State[] states = {LampPlate::new, RefusalSentences::busy, RefusalSentences::full, RefusalSentences::settled};
        for (State state : states) {
            long[] want = seen(state.make());
            for (int i = 0; i < looks.length; i++) {
                LampPlate x = state.make();
                looks[i].on(x);
                same("look " + i, seen(x), want);
            }
        }
    }

    /** Else the tests above would hold nothing. */
    static void t4ChangesAreSeen() {
        SentencesTest.holds("Terms", "Refused calls change nothing;");
        Call[] changes = {x -> x.light(0, 0), x -> x.push(1, 1), x -> x.cost(2, 9), x -> x.button(0, 0, 0, 0), x -> x.tell(0), x -> x.check(0),
            x -> x.entry(2, 1) ? 1 : 0, x -> x.board(1, 5) ? 1 : 0, x -> x.board(4, 5) ? 1 : 0, x -> x.undo(), x -> x.keep() ? 1 : 0,
            x -> x.back() ? 1 : 0, x -> x.next(), x -> x.element(1, 0), x -> x.least(), x -> x.worst(), x -> x.apply(), x -> x.wire(0),
            x -> x.plate(4, 3, 2) ? 1 : 0};
        long[] before = seen(busy());
        for (int i = 0; i < changes.length; i++) {
            LampPlate x = busy();
            c.due("change " + i + " is done", changes[i].on(x) == -1 && i != 5, false);
            c.due("change " + i + " is seen", Arrays.equals(seen(x), before), false);
        }
    }

    private static Refused none(String name, Call call) {
        return new Refused(name, -1, call);
    }

    private static Refused no(String name, Call call) {
        return new Refused(name, 0, call);
    }

    /** Wrong whatever was done before. */
    private static Refused[] refusedAlways() {
        return new Refused[] {
            no("plate(0, 2, 1)", x -> x.plate(0, 2, 1) ? 1 : 0), no("plate(37, 2, 1)", x -> x.plate(37, 2, 1) ? 1 : 0),
            no("plate(2, 1, 1)", x -> x.plate(2, 1, 1) ? 1 : 0), no("plate(2, 13, 1)", x -> x.plate(2, 13, 1) ? 1 : 0),
            no("plate(2, 2, 0)", x -> x.plate(2, 2, 0) ? 1 : 0), no("plate(2, 2, 3)", x -> x.plate(2, 2, 3) ? 1 : 0),
            none("button(-1, ..)", x -> x.button(-1, 0, 0, 0)), none("button(5, ..)", x -> x.button(5, 0, 0, 0)),
            none("button(1, 36, ..)", x -> x.button(1, 36, 0, 0)), none("button(2, 99, ..)", x -> x.button(2, 99, 0, 0)),
            none("button(3, MIN, ..)", x -> x.button(3, MIN, 0, 0)), none("button(1, 0, 12, 0)", x -> x.button(1, 0, 12, 0)),
            none("button(4, 0, 0, 36)", x -> x.button(4, 0, 0, 36)), no("board(-1, 1)", x -> x.board(-1, 1) ? 1 : 0),
            no("board(5, 1)", x -> x.board(5, 1) ? 1 : 0), no("board(0, -1)", x -> x.board(0, -1) ? 1 : 0),
            no("board(3, 81)", x -> x.board(3, 81) ? 1 : 0), no("entry(-1, 1)", x -> x.entry(-1, 1) ? 1 : 0),
            no("entry(80, 1)", x -> x.entry(80, 1) ? 1 : 0), none("wire(-1)", x -> x.wire(-1)), none("wire(36)", x -> x.wire(36)),
            none("cost(-1, 5)", x -> x.cost(-1, 5)), none("cost(36, 5)", x -> x.cost(36, 5)), none("cost(0, -1)", x -> x.cost(0, -1)),
            none("cost(0, 1001)", x -> x.cost(0, 1001)), none("light(-1, 1)", x -> x.light(-1, 1)), none("light(36, 1)", x -> x.light(36, 1)),
            none("light(0, -1)", x -> x.light(0, -1)), none("light(0, 12)", x -> x.light(0, 12)), none("push(-1, 1)", x -> x.push(-1, 1)),
            none("push(36, 1)", x -> x.push(36, 1)), none("push(0, -1)", x -> x.push(0, -1)), none("push(0, 1000001)", x -> x.push(0, 1000001)),
            none("count(-1)", x -> x.count(-1)), none("count(8)", x -> x.count(8)), none("shown(-1)", x -> x.shown(-1)),
            none("shown(36)", x -> x.shown(36)), none("step(-1, 0)", x -> x.step(-1, 0)), none("step(0, 36)", x -> x.step(0, 36)),
            none("row(-1)", x -> x.row(-1)), none("row(36)", x -> x.row(36)), none("primes(4, 2)", x -> x.primes(4, 2)),
            none("primes(0, 4)", x -> x.primes(0, 4)), none("primes(0, 0)", x -> x.primes(0, 0)), none("base(-1)", x -> x.base(-1)),
            none("base(2)", x -> x.base(2)), none("element(2, 0)", x -> x.element(2, 0)), none("element(0, -1)", x -> x.element(0, -1)),
            none("element(0, 36)", x -> x.element(0, 36)), none("element(1, MAX)", x -> x.element(1, MAX)), none("tell(-1)", x -> x.tell(-1)),
            none("tell(12)", x -> x.tell(12)), new Refused("check(2)", -2, x -> x.check(2)), new Refused("check(-1)", -2, x -> x.check(-1))};
    }

    private static void changeNothing(State state, Refused[] all) {
        long[] want = seen(state.make());
        for (Refused refused : all) {
            LampPlate x = state.make();
            c.due(refused.name, refused.call.on(x), refused.due);
            same(refused.name, seen(x), want);
        }
    }

    private static void same(String behind, long[] got, long[] want) {
        for (int i = 0; i < want.length; i++) {
            c.due("answer " + i + " behind " + behind, got[i], want[i]);
        }
    }

    /** A kept plate, a button of each KIND, a board, the ROW of can(), and THE LIST as a right pushing. */
    private static LampPlate busy() {
        LampPlate x = Plates.made(4, 3, 2);
        x.light(1, 1);
        x.keep();
        x.plate(4, 3, 2);
        Plates.plain(x, 1, 2, 0, 1);
        x.button(1, 0, 1, 0);
        x.button(2, 101, 2, 0);
        x.button(3, 0, 1, 0);
        x.button(4, 3, 1, 0);
        x.cost(1, 5);
        x.cost(4, 0);
        x.push(0, 1);
        x.push(4, 2);
        x.board(1, 5);
        x.entry(2, -1);
        x.entry(3, 7);
        Plates.tell(x, 1, 0, 0, 0, 2);
        x.can();
        return x;
    }

    /** 36 buttons, 60 ACTS and more, 36 numbers in THE LIST, a missing board, more pushings than can be looked through. */
    private static LampPlate full() {
        LampPlate x = Plates.made(2, 2, 1);
        x.keep();
        for (int button = 0; button < 36; button++) {
            x.button(button < 20 ? 0 : 1 + button % 3, 0, 1, 0);
            x.tell(button % 2);
        }
        for (int i = 0; i < 30; i++) {
            x.cost(i, i);
        }
        Plates.light(x, 1, 1);
        x.board(4, 0);
        x.can();
        x.next();
        return x;
    }

    /** A plate come back to whose pattern can't be: the ROW says why. */
    private static LampPlate settled() {
        LampPlate x = Plates.made(3, 4, 3);
        Plates.plain(x, 2, 0, 0);
        x.button(3, 0, 1, 0);
        Plates.light(x, 2, 1, 0);
        x.keep();
        x.push(0, 1);
        x.back();
        x.can();
        return x;
    }

    /** The answers to all that can be asked; the calls change the object, but two that are alike in the same way. */
    private static long[] seen(LampPlate x) {
        long[] answers = new long[480];
        int n = 0;
        for (int what = 0; what < 8; what++) {
            answers[n++] = x.count(what);
        }
        n = seenRow(x, answers, n, 37);
        n = seenPlate(x, answers, n);
        answers[n++] = x.next();
        n = seenRow(x, answers, n, 6);
        answers[n++] = x.tell(0);
        answers[n++] = x.check(0);
        answers[n++] = x.apply();
        answers[n++] = x.can();
        n = seenRow(x, answers, n, 6);
        answers[n++] = x.least();
        answers[n++] = x.wire(0);
        n = seenPlate(x, answers, n);
        for (int button = 0; button < 5; button++) {
            answers[n++] = x.cost(button, 3);
        }
        for (int i = 0; i < 62; i++) {
            answers[n++] = x.undo();
            answers[n++] = x.shown(i % 4);
            answers[n++] = x.step(0, i % 4);
        }
        answers[n++] = x.count(3);
        answers[n++] = x.back() ? 1 : 0;
        return Arrays.copyOf(answers, seenPlate(x, answers, n));
    }

    private static int seenRow(LampPlate x, long[] answers, int from, int size) {
        int n = from;
        for (int i = 0; i < size; i++) {
            answers[n++] = x.row(i);
        }
        return n;
    }

    private static int seenPlate(LampPlate x, long[] answers, int from) {
        int n = from;
        for (int lamp = 0; lamp < 4; lamp++) {
            answers[n++] = x.shown(lamp);
            for (int button = 0; button < 5; button++) {
                answers[n++] = x.step(button, lamp);
            }
        }
        return n;
    }
}
