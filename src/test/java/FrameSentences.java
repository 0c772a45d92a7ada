/** What stands before and behind the terms and promises: 'What it is' and 'Not promised'. */
final class FrameSentences {
    private static final String WHAT_IT_IS = "What it is";
    private static final String NOT_PROMISED = "Not promised";
    private static final Checks c = SentencesTest.c;

    private FrameSentences() {
    }

    static void t0ManyColoursAndPatterns() {
        SentencesTest.holds(WHAT_IT_IS, "Plates of lamps whose buttons each change many of them, in any number of colours from two to twelve:"
            + " which patterns can be shown, by which pushings, why others can't, pushings that change nothing, what is cheapest,"
            + " which pattern is hardest;");
        for (int m = 2; m <= 12; m++) {
            patternsOfOneButton(m);
        }
    }

    /** Button 0 changes both lamps by 1, button 1 none, so that just (v, v) can be, by (v, any). */
    private static void patternsOfOneButton(int m) {
        LampPlate x = Plates.made(2, m, 2);
        Plates.plain(x, 1, 1);
        Plates.plain(x, 0, 0);
        c.due("it changes both", x.push(0, m - 1), 2);
        c.due("can() of " + m, x.can(), 1);
        c.row("the first pushing", x, m - 1, 0);
        for (int v = 1; v < m; v++) {
            c.due("next() of " + m, x.next(), 1);
            c.row("pushing " + v, x, m - 1, v);
        }
        c.due("next() behind the last", x.next(), 0);
        c.due("base(0)", x.base(0), 1);
        c.due("element(0, 0)", x.element(0, 0), 1);
        c.row("a pushing that changes nothing", x, 0, 1);
        x.cost(0, 7);
        c.due("least()", x.least(), 7 * (m - 1));
        c.row("the cheapest", x, m - 1, 0);
        c.due("worst()", x.worst(), 7 * (m - 1));
        c.row("the hardest", x, m - 1, m - 1);
        x.light(1, 0);
        c.due("can() of a pattern that can't be", x.can(), 0);
        c.row("why", x, 1, m - 1);
        c.due("least() of it", x.least(), -1);
    }

    static void t0BoardsOfWires() {
        SentencesTest.holds(WHAT_IT_IS, "boards of wires that are missing or cut short;");
        for (int m = 2; m <= 12; m++) {
            LampPlate x = Plates.made(3, m, 3);
            x.button(0, 0, 0, 0);
            c.due("cut short, wires", Plates.wire(x, 0, -1, 1), 2);
            c.steps(x, 0, m - 1, 1, 0);
            x.board(4, 3);
            c.due("missing, wires", x.wire(0), 0);
            c.steps(x, 0, 0, 0, 0);
        }
    }

    static void t0KeptAndComeBackTo() {
        SentencesTest.holds(WHAT_IT_IS, "a plate kept and come back to.");
        for (int m = 2; m <= 12; m++) {
            LampPlate x = Plates.made(3, m, 2);
            Plates.plain(x, 1, 0, m - 1);
            x.cost(0, 1000);
            Plates.light(x, m - 1, 1, 0);
            x.keep();
            x.plate(36, 14 - m, 36);
            x.button(2, 0, 1, 0);
            for (int turn = 0; turn < 2; turn++) {
                c.due("back()", x.back(), true);
                c.due("colours", x.count(1), m);
                c.due("width", x.count(2), 2);
                c.due("buttons", x.count(3), 1);
                c.shown("come back to", x, m - 1, 1, 0);
                c.steps(x, 0, 1, 0, m - 1);
                c.due("what it costs", x.cost(0, 3), 1000);
                x.light(0, 0);
            }
        }
    }

    static void t0AtMost512Calls() {
        SentencesTest.holds(WHAT_IT_IS, "An object is used for at most 512 calls after it has been made;");
        SentencesTest.free(WHAT_IT_IS, "what later calls answer is free.");
        SentencesTest.free(NOT_PROMISED, "and nothing about an object after its 512th call.");
        LampPlate x = new LampPlate();
        x.plate(4, 5, 2);
        x.button(1, 0, 1, 0);
        for (int call = 3; call <= 509; call++) {
            c.due("push(0, 1), call " + call, x.push(0, 1), 3);
        }
        c.due("shown(0), call 510", x.shown(0), 507 % 5);
        c.due("can(), call 511", x.can(), 1);
        c.due("row(0), call 512", x.row(0), 507 % 5);
    }

    static void t0DearCalls512Times() {
        SentencesTest.holds(WHAT_IT_IS, "An object is used for at most 512 calls after it has been made;");
        LampPlate x = Plates.dots(16, 2);
        for (int call = 18; call <= 512; call += 5) {
            int v = call / 5 % 2;
            c.due("light(), call " + call, x.light(15, v), 1 - v);
            c.due("worst()", x.worst(), 16);
            c.due("least()", x.least(), v);
            c.due("row(15)", x.row(15), v);
            c.due("count(4)", x.count(4), Math.min(60, 17 + (call - 18) / 5));
        }
    }

    /** Held as it likes, but by each object for itself: two that are used in turns answer as each would alone. */
    static void t0NoObjectSeesAnother() {
        SentencesTest.holds(NOT_PROMISED, "How the state is held inside the object is free,");
        SentencesTest.free(NOT_PROMISED, "as are the speed of each call, the text of toString and the behaviour of equals and hashCode.");
        SentencesTest.free(NOT_PROMISED, "Use of one object from several threads at once is not promised to be safe.");
        LampPlate x = Plates.crosses(4, 2, 2);
        LampPlate y = Plates.made(2, 12, 1);
        Plates.plain(y, 4, 6);
        x.light(0, 1);
        y.push(0, 5);
        c.due("can() of one", x.can(), 1);
        c.due("can() of the other", y.can(), 1);
        c.row("of one", x, 1, 1, 1, 0);
        c.row("of the other", y, 5);
        c.due("next() of one", x.next(), 0);
        c.due("next() of the other", y.next(), 1);
        c.row("of the other", y, 11);
        x.board(0, 3);
        y.tell(11);
        x.keep();
        c.due("the other has no board", y.count(7), -1);
        c.due("one has no list", x.tell(0), 1);
        c.due("the other kept nothing", y.back(), false);
        c.due("check() of the other", y.check(0), -1);
        c.due("worst() of one", x.worst(), 4);
        c.due("worst() of the other", y.worst(), 5);
        c.due("undo() of one", x.undo(), 4);
        c.due("undo() of the other", y.undo(), 2);
        c.shown("of one", x, 0, 0, 0, 0);
        c.shown("of the other", y, 0, 0);
    }
}
