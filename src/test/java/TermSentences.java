/** 'Terms' 1 to 4 of the document, sentence by sentence, at their edges. */
final class TermSentences {
    private static final String TERMS = "Terms";
    private static final Checks c = SentencesTest.c;

    private TermSentences() {
    }

    // Term 1: plates, steps, boards

    static void t1Limits() {
        SentencesTest.holds(TERMS, "A PLATE has LAMPS 0 .. n - 1 (n 1 .. 36), COLOURS m (2 .. 12), a WIDTH w (1 .. n):");
        LampPlate x = new LampPlate();
        for (int n = 1; n <= 36; n++) {
            c.due("plate(" + n + ", 2, 1)", x.plate(n, 2, 1), true);
            c.due("plate(" + n + ", 12, " + n + ")", x.plate(n, 12, n), true);
            c.due("lamp n - 1 of " + n, x.shown(n - 1), 0);
            c.due("lamp n of " + n, x.shown(n), -1);
            c.due("plate(" + n + ", 2, " + (n + 1) + ")", x.plate(n, 2, n + 1), false);
        }
        for (int m = 0; m <= 14; m++) {
            c.due("plate(3, " + m + ", 2)", x.plate(3, m, 2), m >= 2 && m <= 12);
        }
    }

    static void t1RowsAndColumns() {
        SentencesTest.holds(TERMS, "lamp i stands in row i / w, column i % w (the last row may be shorter).");
        int[][] sizes = {{1, 1}, {5, 4}, {7, 3}, {6, 3}, {36, 1}, {36, 36}, {36, 6}, {35, 6}, {36, 35}};
        for (int[] size : sizes) {
            rowsAndColumns(size[0], size[1]);
        }
    }

    private static void rowsAndColumns(int n, int w) {
        for (int lamp = 0; lamp < n; lamp++) {
            LampPlate x = Plates.made(n, 3, w);
            c.due("the row of lamp " + lamp, x.button(2, lamp / w, 2, 0), 0);
            c.due("the column of lamp " + lamp, x.button(2, 100 + lamp % w, 1, 0), 1);
            for (int other = 0; other < n; other++) {
                c.due("lamp " + other + " of " + n + ", " + w + " in row " + lamp / w, x.step(0, other), other / w == lamp / w ? 2 : 0);
                c.due("lamp " + other + " of " + n + ", " + w + " in column " + lamp % w, x.step(1, other), other % w == lamp % w ? 1 : 0);
            }
        }
    }

    static void t1AtFirstNought() {
        SentencesTest.holds(TERMS, "Each lamp SHOWS a number 0 .. m - 1, at first 0.");
        LampPlate x = Plates.made(36, 12, 6);
        for (int lamp = 0; lamp < 36; lamp++) {
            c.due("shown(" + lamp + ") at first", x.shown(lamp), 0);
            x.light(lamp, 11);
            c.due("shown(" + lamp + ") then", x.shown(lamp), 11);
        }
        x.plate(36, 2, 6);
        c.due("of a new plate none is lit", x.count(5), 0);
        c.due("m is too much", x.light(0, 2), -1);
        c.due("m - 1 is not", x.light(0, 1), 0);
    }

    static void t1AtMost36Buttons() {
        SentencesTest.holds(TERMS, "BUTTONS 0, 1, .. as they come, at most 36.");
        LampPlate x = Plates.made(1, 2, 1);
        for (int button = 0; button < 36; button++) {
            c.due("button " + button, x.button(button % 4, 0, 1, 0), button);
        }
        for (int kind = 0; kind <= 4; kind++) {
            c.due("a 37th of kind " + kind, x.button(kind, 0, 1, 0), -1);
        }
        c.due("undo()", x.undo(), 35);
        c.due("the 36th again", x.button(4, 0, 1, 0), 35);
        c.due("a 37th", x.button(4, 0, 1, 0), -1);
    }

    static void t1SumsByM() {
        SentencesTest.holds(TERMS, "All sums of lamps are by m: what is left, from 0 on.");
        for (int m = 2; m <= 12; m++) {
            LampPlate x = Plates.made(1, m, 1);
            x.button(1, 0, 1, 0);
            x.button(1, 0, m - 1, 0);
            x.light(0, m - 1);
            c.due("push(0, 1)", x.push(0, 1), 1);
            c.due(m - 1 + " and 1 by " + m, x.shown(0), 0);
            c.due("push(1, 1)", x.push(1, 1), 1);
            c.due("0 and " + (m - 1) + " by " + m, x.shown(0), m - 1);
            c.due("push(1, 1)", x.push(1, 1), 1);
            c.due("twice " + (m - 1) + " by " + m, x.shown(0), m - 2);
            c.due("push(0, m)", x.push(0, m), 0);
        }
    }

    static void t1Plain() {
        SentencesTest.holds(TERMS, "STEPS of a button: a number 0 .. m - 1 for each lamp. Of KIND 0 PLAIN: as its board told; without 0.");
        LampPlate x = Plates.made(3, 5, 2);
        x.button(0, 1, 4, 0);
        c.steps(x, 0, 0, 0, 0);
        c.due("push() of one without a board", x.push(0, 1), 0);
        Plates.wire(x, 0, 4, 0, 1);
        c.steps(x, 0, 4, 0, 1);
        Plates.wire(x, 0, 0, 2, 0);
        c.steps(x, 0, 0, 2, 0);
        c.due("a later one has none of its steps", x.button(0, 0, 0, 0), 1);
        c.steps(x, 1, 0, 0, 0);
        for (int left = 4; left >= 0; left--) {
            c.due("undo()", x.undo(), left);
        }
        c.due("all taken back", x.count(3), 0);
        x.button(0, 0, 0, 0);
        c.steps(x, 0, 0, 0, 0);
    }

    static void t1Cross() {
        SentencesTest.holds(TERMS, "1 CROSS (a lamp a, add b): b at a and at those of a's row and column beside it (that there are).");
        LampPlate x = Plates.made(8, 5, 3);
        int[][] want = {{1, 1, 0, 1, 0, 0, 0, 0}, {2, 2, 2, 0, 2, 0, 0, 0}, {0, 3, 3, 0, 0, 3, 0, 0}, {4, 0, 0, 4, 4, 0, 4, 0},
            {0, 1, 0, 1, 1, 1, 0, 1}, {0, 0, 2, 0, 2, 2, 0, 0}, {0, 0, 0, 3, 0, 0, 3, 3}, {0, 0, 0, 0, 4, 0, 4, 4}};
        for (int lamp = 0; lamp < 8; lamp++) {
            c.due("button()", x.button(1, lamp, 1 + lamp % 4, 0), lamp);
            c.steps(x, lamp, want[lamp]);
        }
        x.button(1, 4, 0, 0);
        c.steps(x, 8, 0, 0, 0, 0, 0, 0, 0, 0);
        LampPlate column = Plates.crosses(3, 2, 1);
        c.steps(column, 0, 1, 1, 0);
        c.steps(column, 1, 1, 1, 1);
        c.steps(column, 2, 0, 1, 1);
        LampPlate row = Plates.crosses(3, 2, 3);
        c.steps(row, 0, 1, 1, 0);
        c.steps(row, 2, 0, 1, 1);
        c.steps(Plates.crosses(1, 2, 1), 0, 1);
    }

    static void t1Line() {
        SentencesTest.holds(TERMS, "2 LINE (a, b): b at all lamps of row a; of column a - 100, if a is 100 or more.");
        LampPlate x = Plates.made(8, 4, 3);
        x.button(2, 0, 3, 0);
        x.button(2, 2, 2, 0);
        x.button(2, 100, 1, 0);
        x.button(2, 102, 3, 0);
        x.button(2, 1, 0, 0);
        c.steps(x, 0, 3, 3, 3, 0, 0, 0, 0, 0);
        c.steps(x, 1, 0, 0, 0, 0, 0, 0, 2, 2);
        c.steps(x, 2, 1, 0, 0, 1, 0, 0, 1, 0);
        c.steps(x, 3, 0, 0, 3, 0, 0, 3, 0, 0);
        c.steps(x, 4, 0, 0, 0, 0, 0, 0, 0, 0);
        c.due("push() of a row", x.push(0, 1), 3);
        c.due("push() of a column", x.push(3, 1), 2);
        c.shown("pushed", x, 3, 3, 2, 0, 0, 3, 0, 0);
    }

    static void t1Stuck() {
        SentencesTest.holds(TERMS, "3 STUCK: as a LINE, but it can't be pushed.");
        LampPlate x = Plates.made(5, 4, 2);
        x.button(3, 2, 3, 0);
        x.button(3, 101, 1, 0);
        c.steps(x, 0, 0, 0, 0, 0, 3);
        c.steps(x, 1, 0, 1, 0, 1, 0);
        c.due("push(0, 1)", x.push(0, 1), -1);
        c.due("push(1, 0)", x.push(1, 0), -1);
        x.light(4, 3);
        c.due("no pushing has it", x.can(), 0);
        c.due("of it there are no pushings", x.primes(2, 2), 0);
    }

    static void t1Twin() {
        SentencesTest.holds(TERMS, "4 TWIN (a, b, other): as a CROSS, and the STEPS that the other one has of its own kind, if that is no TWIN;");
        LampPlate x = Plates.made(4, 4, 2);
        Plates.plain(x, 1, 2, 3, 0);
        x.button(1, 3, 2, 0);
        x.button(2, 101, 3, 0);
        x.button(3, 0, 1, 0);
        for (int other = 0; other < 4; other++) {
            c.due("button()", x.button(4, 0, 3, other), 4 + other);
        }
        c.steps(x, 4, 0, 1, 2, 0);
        c.steps(x, 5, 3, 1, 1, 2);
        c.steps(x, 6, 3, 2, 3, 3);
        c.steps(x, 7, 0, 0, 3, 0);
        c.due("a STUCK one's twin can be pushed", x.push(7, 2), 1);
        c.due("button() that adds 0", x.button(4, 0, 0, 2), 8);
        c.steps(x, 8, 0, 3, 0, 3);
    }

    static void t1TwinOfTwin() {
        SentencesTest.holds(TERMS, "a TWIN's as of a CROSS alone.");
        LampPlate x = Plates.made(5, 3, 5);
        x.button(2, 0, 1, 0);
        x.button(4, 0, 2, 0);
        x.button(4, 4, 2, 1);
        x.button(4, 0, 1, 2);
        c.steps(x, 1, 0, 0, 1, 1, 1);
        c.steps(x, 2, 2, 2, 0, 2, 2);
        c.steps(x, 3, 1, 1, 0, 2, 2);
    }

    static void t1StepsOfNow() {
        SentencesTest.holds(TERMS, "STEPS are those of now (a board wired later changes the TWIN's, too).");
        LampPlate x = Plates.made(3, 5, 3);
        x.button(0, 0, 0, 0);
        x.button(4, 0, 1, 0);
        x.button(4, 2, 1, 1);
        c.steps(x, 1, 1, 1, 0);
        x.light(2, 4);
        c.due("can()", x.can(), 0);
        Plates.wire(x, 0, 0, 0, 4);
        c.steps(x, 1, 1, 1, 4);
        c.due("a TWIN of a TWIN stays", x.step(2, 0), 1);
        c.due("can() by the steps of now", x.can(), 1);
        x.undo();
        c.due("can() behind undo()", x.can(), 0);
        Plates.wire(x, 0, 0, 0, 4);
        Plates.wire(x, 0, 4, 4, 1);
        c.steps(x, 1, 0, 0, 1);
        c.due("push()", x.push(1, 1), 1);
        x.undo();
        x.undo();
        c.steps(x, 1, 1, 1, 4);
        x.undo();
        c.steps(x, 1, 1, 1, 0);
        c.due("can() by the steps of now", x.can(), 0);
    }

    static void t1Board() {
        SentencesTest.holds(TERMS, "A BOARD: a row that was made, or a missing one.");
        LampPlate x = Plates.made(2, 3, 2);
        x.button(0, 0, 0, 0);
        c.due("none at all", x.wire(0), -1);
        x.board(1, 2);
        x.entry(1, 2);
        c.due("a row", x.wire(0), 1);
        x.board(4, 2);
        c.due("a missing one", x.wire(0), 0);
        c.steps(x, 0, 0, 0);
    }

    static void t1BytesAndShorts() {
        SentencesTest.holds(TERMS, "Rows of bytes (KIND 0) and shorts (1): entry i is lamp i's steps;");
        for (int kind = 0; kind <= 1; kind++) {
            LampPlate x = Plates.made(36, 12, 6);
            x.button(0, 0, 0, 0);
            x.board(kind, 80);
            for (int i = 0; i < 80; i++) {
                x.entry(i, (i * 5 + 3) % 12);
            }
            c.due("wire(0)", x.wire(0), 33);
            for (int lamp = 0; lamp < 36; lamp++) {
                c.due("step(0, " + lamp + ")", x.step(0, lamp), (lamp * 5 + 3) % 12);
            }
        }
    }

    static void t1IntsAndLongs() {
        SentencesTest.holds(TERMS, "of ints (2) and longs (3): bit i % 32 (i % 64) of entry i / 32 (i / 64) is lamp i's step (0 or 1).");
        for (int lamp = 0; lamp < 36; lamp++) {
            LampPlate x = Plates.made(36, 2 + lamp % 11, 6);
            x.button(0, 0, 0, 0);
            x.button(0, 0, 0, 0);
            x.board(2, 80);
            x.entry(lamp / 32, 1L << (lamp % 32));
            c.due("wire(0) of ints", x.wire(0), 1);
            c.due("step(0, " + lamp + ") of ints", x.step(0, lamp), 1);
            x.board(3, 80);
            x.entry(0, 1L << lamp);
            x.entry(1, -1);
            c.due("wire(1) of longs", x.wire(1), 1);
            c.due("step(1, " + lamp + ") of longs", x.step(1, lamp), 1);
        }
        LampPlate y = Plates.made(36, 3, 6);
        y.button(0, 0, 0, 0);
        y.board(2, 3);
        y.entry(0, Plates.MIN);
        y.entry(1, ~15);
        y.entry(2, -1);
        c.due("bits that are no lamp's", y.wire(0), 1);
        y.board(3, 2);
        y.entry(0, -1L << 36);
        y.entry(1, -1);
        c.due("bits that are no lamp's", y.wire(0), 0);
        y.board(2, 2);
        y.entry(0, -1);
        y.entry(1, -1);
        c.due("a bit below 0 is a 1", y.wire(0), 36);
        c.due("step(0, 35)", y.step(0, 35), 1);
    }

    static void t1MissingOrCutShort() {
        SentencesTest.holds(TERMS, "What the board has not (missing, or cut short) is 0;");
        LampPlate x = Plates.made(36, 2, 36);
        x.button(0, 0, 0, 0);
        c.due("bytes, all", wireFull(x, 0, 36), 36);
        c.due("bytes, one short", wireFull(x, 0, 35), 35);
        c.steps(x, 0, 1);
        c.due("step(0, 35)", x.step(0, 35), 0);
        c.due("a missing one", x.board(4, 0) ? x.wire(0) : -1, 0);
        c.due("step(0, 0)", x.step(0, 0), 0);
        c.due("shorts, one", wireFull(x, 1, 1), 1);
        c.due("step(0, 0)", x.step(0, 0), 1);
        c.due("step(0, 1)", x.step(0, 1), 0);
        c.due("ints, one", wireFull(x, 2, 1), 32);
        c.due("step(0, 31)", x.step(0, 31), 1);
        c.due("step(0, 32)", x.step(0, 32), 0);
        c.due("longs, one", wireFull(x, 3, 1), 36);
        for (int kind = 0; kind <= 3; kind++) {
            c.due("no entries, kind " + kind, wireFull(x, kind, 0), 0);
        }
    }

    private static int wireFull(LampPlate x, int kind, int n) {
        x.board(kind, n);
        for (int i = 0; i < n; i++) {
            x.entry(i, -1);
        }
        return x.wire(0);
    }

    static void t1NumbersByM() {
        SentencesTest.holds(TERMS, "numbers count by m, also those below 0 (-1 is m - 1).");
        int[] numbers = {-1, -2, -127, -128, 126, 127, -32767, -32768, 32766, 32767};
        for (int m = 2; m <= 12; m++) {
            LampPlate x = Plates.made(10, m, 10);
            x.button(0, 0, 0, 0);
            x.board(1, 10);
            for (int i = 0; i < 10; i++) {
                x.entry(i, numbers[i]);
            }
            x.wire(0);
            for (int i = 0; i < 10; i++) {
                int left = numbers[i] % m;
                c.due(numbers[i] + " by " + m, x.step(0, i), left < 0 ? left + m : left);
            }
            c.due("-1 by " + m, x.step(0, 0), m - 1);
            c.due("m, -m and 2 m are 0", Plates.wire(x, 0, m, -m, 2 * m), 0);
        }
    }

    // Term 2: pushings, bases, weights, primes

    static void t2Pushing() {
        SentencesTest.holds(TERMS, "A PUSHING tells for each button how often it is pushed, 0 .. m - 1 (of a STUCK one 0).");
        LampPlate x = Plates.made(1, 4, 1);
        x.button(1, 0, 2, 0);
        x.button(3, 0, 1, 0);
        x.button(1, 0, 2, 0);
        x.light(0, 2);
        int seen = 0;
        int found = x.can();
        for (int i = 0; i < 20 && found == 1; i++) {
            c.due("row(1) of a STUCK one", x.row(1), 0);
            c.due("2 (p + r) by 4", 2 * (x.row(0) + x.row(2)) % 4, 2);
            c.due("row(0) is 0 .. 3", x.row(0) >= 0 && x.row(0) <= 3, true);
            c.due("row(2) is 0 .. 3", x.row(2) >= 0 && x.row(2) <= 3, true);
            c.due("row(3)", x.row(3), -1);
            seen++;
            found = x.next();
        }
        c.due("pushings", seen, 8);
    }

    static void t2StuckOnesAre0() {
        SentencesTest.holds(TERMS, "(of a STUCK one 0).");
        LampPlate x = Plates.made(3, 4, 3);
        x.button(3, 0, 1, 0);
        x.button(3, 101, 1, 0);
        x.button(1, 0, 1, 0);
        x.worst();
        c.row("the hardest pattern", x, 3, 3, 0);
        x.can();
        c.row("no number of it is left", x, 0, 0, 0);
        x.element(1, 0);
        c.row("weights", x, 1, 3, 0);
        x.least();
        c.row("no number of them is left", x, 0, 0, 0);
    }

    static void t2Pattern() {
        SentencesTest.holds(TERMS, "Its PATTERN: of each lamp the sum, over all buttons, of times and STEPS.");
        LampPlate x = Plates.made(3, 6, 3);
        Plates.plain(x, 1, 5, 2);
        x.button(1, 0, 4, 0);
        x.button(4, 2, 3, 0);
        Plates.light(x, (5 + 4 * 3 + 2) % 6, (5 * 5 + 4 * 3 + 2 * 2) % 6, (5 * 2 + 2 * 5) % 6);
        c.due("5, 3, 2 make it", Plates.tellAndCheck(x, 0, 5, 3, 2), -1);
        c.due("can()", x.can(), 1);
        int[] row = {x.row(0), x.row(1), x.row(2)};
        for (int lamp = 0; lamp < 3; lamp++) {
            int sum = 0;
            for (int button = 0; button < 3; button++) {
                sum += row[button] * x.step(button, lamp);
            }
            c.due("the sum at lamp " + lamp, sum % 6, x.shown(lamp));
        }
    }

    static void t2Cost() {
        SentencesTest.holds(TERMS, "Its COST: the sum of times and each button's COST (0 .. 1000, at first 1).");
        LampPlate x = Plates.dots(36, 12);
        for (int lamp = 0; lamp < 36; lamp++) {
            x.light(lamp, 11);
        }
        c.due("36 times 11 times 1", x.least(), 396);
        for (int button = 0; button < 36; button++) {
            c.due("cost(" + button + ", 1000)", x.cost(button, 1000), 1);
        }
        c.due("36 times 11 times 1000", x.least(), 396000);
        x.cost(35, 0);
        c.due("but for a free one", x.least(), 385000);
    }

    static void t2Order() {
        SentencesTest.holds(TERMS, "ORDER of pushings: the first one has the less at the last button at which they are not alike.");
        LampPlate x = Plates.idle(3, 3);
        c.due("can()", x.can(), 1);
        for (int i = 0; i < 27; i++) {
            c.row("number " + i, x, i % 3, i / 3 % 3, i / 9);
            c.due("next()", x.next(), i < 26 ? 1 : 0);
        }
        x.light(0, 2);
        x.button(1, 0, 1, 0);
        x.button(1, 0, 1, 0);
        c.due("least()", x.least(), 2);
        c.row("the least at the last one", x, 0, 0, 0, 2, 0);
    }

    static void t2CanBe() {
        SentencesTest.holds(TERMS, "The pattern SHOWN CAN be, if it is a PUSHING's.");
        LampPlate x = Plates.made(2, 6, 2);
        Plates.plain(x, 2, 4);
        Plates.plain(x, 3, 3);
        boolean[] made = new boolean[36];
        for (int times = 0; times < 36; times++) {
            int p = times % 6;
            int q = times / 6;
            made[(2 * p + 3 * q) % 6 * 6 + (4 * p + 3 * q) % 6] = true;
        }
        for (int v = 0; v < 36; v++) {
            Plates.light(x, v / 6, v % 6);
            c.due("can() of " + v / 6 + ", " + v % 6, x.can(), made[v] ? 1 : 0);
        }
    }

    static void t2AllInOrder() {
        SentencesTest.holds(TERMS, "All PUSHINGS for it are in ORDER; the FIRST one.");
        LampPlate x = Plates.made(1, 12, 1);
        Plates.plain(x, 8);
        Plates.plain(x, 3);
        x.light(0, 5);
        int found = x.can();
        for (int q = 0; q < 12; q++) {
            for (int p = 0; p < 12; p++) {
                if ((8 * p + 3 * q) % 12 == 5) {
                    c.due("there is one more", found, 1);
                    c.row("in ORDER", x, p, q);
                    found = x.next();
                }
            }
        }
        c.due("that was the last one", found, 0);
    }

    static void t2Quiet() {
        SentencesTest.holds(TERMS, "QUIET pushings: those whose PATTERN is all 0.");
        LampPlate x = Plates.made(2, 4, 2);
        Plates.plain(x, 1, 2);
        Plates.plain(x, 3, 2);
        int seen = 0;
        int found = x.can();
        for (int i = 0; i < 20 && found == 1; i++) {
            c.due("p + 3 q by 4", (x.row(0) + 3 * x.row(1)) % 4, 0);
            c.due("2 p + 2 q by 4", (2 * x.row(0) + 2 * x.row(1)) % 4, 0);
            seen++;
            found = x.next();
        }
        c.due("quiet pushings", seen, 4);
        c.due("primes(1, 2)", x.primes(1, 2), 2);
    }

    static void t2QuietBase() {
        SentencesTest.holds(TERMS, "Their BASE: for each button k, from the last one on: of those that are 0 at all buttons behind k and not 0 at k, "
            + "the one with the least there, and of these the first in ORDER;");
        for (int m = 2; m <= 12; m++) {
            for (int s = 0; s < 60; s++) {
                int[] steps = {(s * 7 + 1) % m, s * 5 % m, (s * 3 + s / m) % m};
                quietBase(m, steps);
            }
        }
    }

    private static void quietBase(int m, int[] steps) {
        LampPlate x = Plates.made(1, m, 1);
        Plates.plain(x, steps[0]);
        Plates.plain(x, steps[1]);
        Plates.plain(x, steps[2]);
        int count = 0;
        for (int k = 2; k >= 0; k--) {
            int[] first = firstQuiet(m, steps, k);
            if (first != null) {
                c.due("element(0, " + count + ")", x.element(0, count), 1);
                c.row("of " + m + " and " + steps[0] + ", " + steps[1] + ", " + steps[2], x, first);
                count++;
            }
        }
        c.due("base(0)", x.base(0), count);
    }

    /** In ORDER, so that the first with the least at k is met first. */
    private static int[] firstQuiet(int m, int[] steps, int k) {
        int most = 1;
        for (int button = 0; button <= k; button++) {
            most *= m;
        }
        for (int number = most / m; number < most; number++) {
            int[] row = {number % m, number / m % m, number / m / m};
            if ((row[0] * steps[0] + row[1] * steps[1] + row[2] * steps[2]) % m == 0) {
                return row;
            }
        }
        return null;
    }

    static void t2ButtonsWithoutAny() {
        SentencesTest.holds(TERMS, "buttons without any are left out.");
        LampPlate x = Plates.made(3, 5, 3);
        Plates.plain(x, 0, 0, 0);
        x.button(3, 0, 1, 0);
        Plates.plain(x, 0, 1, 0);
        Plates.plain(x, 0, 3, 0);
        Plates.plain(x, 4, 0, 0);
        c.due("base(0)", x.base(0), 2);
        c.due("element(0, 0)", x.element(0, 0), 1);
        c.row("of button 3", x, 0, 0, 2, 1, 0);
        c.due("element(0, 1)", x.element(0, 1), 1);
        c.row("of button 0", x, 1, 0, 0, 0, 0);
        c.due("element(0, 2)", x.element(0, 2), -1);
        c.due("none has any", Plates.dots(3, 5).base(0), 0);
    }

    static void t2Elements() {
        SentencesTest.holds(TERMS, "It has ELEMENTS 0, 1, .. in this order.");
        LampPlate x = Plates.idle(36, 12);
        c.due("base(0)", x.base(0), 36);
        for (int i = 0; i < 36; i++) {
            c.due("element(0, " + i + ")", x.element(0, i), 1);
            for (int button = 34 - i; button <= 36 - i; button++) {
                c.due("row(" + button + ")", x.row(button), button < 0 || button > 35 ? -1 : button == 35 - i ? 1 : 0);
            }
        }
        c.due("element(0, 36)", x.element(0, 36), -1);
    }

    static void t2Weights() {
        SentencesTest.holds(TERMS, "WEIGHTS are a number 0 .. m - 1 for each lamp, such that for each button that is no STUCK one the sum of weights and STEPS is 0 by m.");
        LampPlate x = Plates.made(2, 4, 2);
        x.button(3, 0, 1, 0);
        Plates.plain(x, 2, 1);
        Plates.plain(x, 0, 2);
        Plates.light(x, 1, 1);
        for (int v = 0; v < 16; v++) {
            int p = v / 4;
            int q = v % 4;
            int due = (2 * p + q) % 4 != 0 ? 201 : 2 * q % 4 != 0 ? 202 : (p + q) % 4 == 0 ? 300 : -1;
            c.due("check(1) of " + p + ", " + q, Plates.tellAndCheck(x, 1, p, q), due);
        }
        c.due("there are 4 of them", x.primes(3, 2), 2);
    }

    static void t2WeightsBase() {
        SentencesTest.holds(TERMS, "Their BASE: for each lamp k, from 0 on: of those that are 0 at all lamps ahead of k and not 0 at k, "
            + "the one with the least there, and of these the one with the less at the first lamp at which they are not alike; likewise numbered.");
        for (int m = 2; m <= 12; m++) {
            for (int s = 0; s < 60; s++) {
                int[] steps = {(s * 7 + 1) % m, s * 5 % m, (s * 3 + s / m) % m};
                weightsBase(m, steps);
            }
        }
    }

    private static void weightsBase(int m, int[] steps) {
        LampPlate x = Plates.made(3, m, 3);
        Plates.plain(x, steps);
        int count = 0;
        for (int k = 0; k < 3; k++) {
            int[] first = firstWeights(m, steps, k);
            if (first != null) {
                c.due("element(1, " + count + ")", x.element(1, count), 1);
                c.row("of " + m + " and " + steps[0] + ", " + steps[1] + ", " + steps[2], x, first);
                count++;
            }
        }
        c.due("base(1)", x.base(1), count);
        c.due("element(1, " + count + ")", x.element(1, count), -1);
    }

    private static int[] firstWeights(int m, int[] steps, int k) {
        int most = 1;
        for (int lamp = k; lamp < 3; lamp++) {
            most *= m;
        }
        for (int number = most / m; number < most; number++) {
            int[] row = {number / m / m, number / m % m, number % m};
            if ((row[0] * steps[0] + row[1] * steps[1] + row[2] * steps[2]) % m == 0) {
                return row;
            }
        }
        return null;
    }

    static void t2Why() {
        SentencesTest.holds(TERMS, "If a pattern can't be, WHY is the first element of this BASE for which the sum of weights and the pattern is not 0 by m. (There is one.)");
        for (int v = 0; v < 72; v++) {
            why(v % 6, v / 6 % 6, v / 36 * 5);
        }
    }

    private static void why(int... shown) {
        LampPlate x = Plates.made(3, 6, 3);
        Plates.plain(x, 2, 2, 0);
        Plates.light(x, shown);
        int[] due = null;
        for (int[] element : new int[][] {{0, 0, 1}, {0, 3, 0}, {1, 2, 0}}) {
            int sum = element[0] * shown[0] + element[1] * shown[1] + element[2] * shown[2];
            due = sum % 6 != 0 ? element : due;
        }
        String pattern = shown[0] + ", " + shown[1] + ", " + shown[2];
        c.due("can() of " + pattern, x.can(), due == null ? 1 : 0);
        if (due != null) {
            c.row("of " + pattern, x, due);
        }
    }

    static void t2FivePrimes() {
        SentencesTest.holds(TERMS, "How many pushings, patterns there are is told by the five primes 2, 3, 5, 7, 11: how often each is in it.");
        int[] primes = {2, 3, 5, 7, 11};
        for (int m = 2; m <= 12; m++) {
            LampPlate x = Plates.dots(36, m);
            int number = 1;
            for (int prime : primes) {
                int often = x.primes(2, prime);
                c.due("36 buttons, 36 times " + prime + " in " + m, often % 36, 0);
                c.due("patterns, " + prime, x.primes(0, prime), often);
                c.due("quiet pushings, " + prime, x.primes(1, prime), 0);
                c.due("weights, " + prime, x.primes(3, prime), 0);
                for (int i = 0; i < often / 36; i++) {
                    number *= prime;
                }
            }
            c.due("the primes of m", number, m);
        }
    }

    // Term 3: SPENT

    static void t3ManyQuiet() {
        SentencesTest.holds(TERMS, "SPENT (-2): there are more than 65536 QUIET pushings,");
        int[] most = {0, 0, 16, 10, 8, 6, 6, 5, 5, 5, 4, 4, 4};
        for (int m = 2; m <= 12; m++) {
            LampPlate x = Plates.idle(most[m], m);
            c.due(m + " to the " + most[m], x.least(), 0);
            x.button(3, 0, 1, 0);
            c.due("a STUCK one has none", x.least(), 0);
            x.button(1, 0, 1, 0);
            c.due("one that changes something has none", x.least(), 0);
            x.button(0, 0, 0, 0);
            c.due(m + " to the " + (most[m] + 1), x.least(), -2);
            x.undo();
            c.due("taken back", x.least(), 0);
        }
        c.due("2 to the 8, 3 to the 5: 62208", halvesAndThirds(8, 5).least(), 0);
        c.due("2 to the 5, 3 to the 7: 69984", halvesAndThirds(5, 7).least(), -2);
        c.due("2 to the 16, by lamps of 6 colours", halvesAndThirds(16, 0).least(), 0);
        c.due("2 to the 17, by lamps of 6 colours", halvesAndThirds(17, 0).least(), -2);
        c.due("far more", Plates.idle(36, 12).least(), -2);
    }

    /** By 6 colours: a button whose 3 pushes are QUIET adds 2, one whose 2 pushes are adds 3. */
    private static LampPlate halvesAndThirds(int halves, int thirds) {
        LampPlate x = Plates.made(halves + thirds, 6, 1);
        for (int lamp = 0; lamp < halves + thirds; lamp++) {
            x.button(2, lamp, lamp < halves ? 2 : 3, 0);
        }
        return x;
    }

    static void t3ManyPushings() {
        SentencesTest.holds(TERMS, "or, for worst(), more than 65536 pushings of all buttons that can be pushed.");
        int[] most = {0, 0, 16, 10, 8, 6, 6, 5, 5, 5, 4, 4, 4};
        for (int m = 2; m <= 12; m++) {
            LampPlate x = Plates.dots(most[m], m);
            c.due(m + " to the " + most[m], x.worst(), most[m] * (m - 1));
            x.button(3, 0, 1, 0);
            c.due("a STUCK one can't be pushed", x.worst(), most[m] * (m - 1));
            x.button(0, 0, 0, 0);
            c.due(m + " to the " + (most[m] + 1), x.worst(), -2);
            c.due("least() is not meant", x.least(), 0);
        }
        c.due("far more", Plates.dots(36, 12).worst(), -2);
        c.due("least() of far more", Plates.dots(36, 12).least(), 0);
    }

    // Term 4: acts

    static void t4Acts() {
        SentencesTest.holds(TERMS, "ACTS are button(), wire(), cost(), light(), push(), chase(), apply() that are not refused");
        LampPlate x = Plates.made(1, 3, 1);
        x.button(1, 0, 1, 0);
        c.due("button()", x.count(4), 1);
        x.cost(0, 5);
        c.due("cost()", x.count(4), 2);
        x.light(0, 2);
        c.due("light()", x.count(4), 3);
        x.push(0, 1);
        c.due("push()", x.count(4), 4);
        x.chase();
        c.due("chase()", x.count(4), 5);
        x.can();
        x.apply();
        c.due("apply()", x.count(4), 6);
        x.button(0, 0, 0, 0);
        x.board(0, 1);
        x.entry(0, 1);
        c.due("board(), entry() are none", x.count(4), 7);
        x.wire(1);
        c.due("wire()", x.count(4), 8);
        x.keep();
        x.can();
        x.next();
        x.element(0, 0);
        x.least();
        x.worst();
        x.primes(0, 3);
        x.base(0);
        x.tell(1);
        x.check(0);
        c.due("the others are none", x.count(4), 8);
        x.button(5, 0, 0, 0);
        x.wire(1);
        x.cost(2, 0);
        x.light(1, 0);
        x.push(2, 0);
        x.chase();
        x.element(1, 0);
        x.worst();
        x.apply();
        c.due("refused ones are none", x.count(4), 8);
        x.undo();
        c.due("undo()", x.count(4), 7);
    }

    static void t4ThatChangeNothing() {
        SentencesTest.holds(TERMS, "(also if they change nothing).");
        LampPlate x = Plates.crosses(1, 4, 1);
        x.light(0, 0);
        c.due("light() as it was", x.count(4), 2);
        x.push(0, 0);
        c.due("push() no times", x.count(4), 3);
        x.push(0, 4);
        c.due("push() all round", x.count(4), 4);
        x.cost(0, 1);
        c.due("cost() as it was", x.count(4), 5);
        c.due("chase() without a second row", x.chase(), 0);
        c.due("chase()", x.count(4), 6);
        x.can();
        c.due("apply() of nothing", x.apply(), 0);
        c.due("apply()", x.count(4), 7);
        x.button(0, 0, 0, 0);
        x.board(4, 0);
        c.due("wire() of nothing", x.wire(1), 0);
        c.due("wire()", x.count(4), 9);
        c.due("push() of a button that changes nothing", x.push(1, 3), 0);
        c.due("push()", x.count(4), 10);
        for (int left = 9; left >= 0; left--) {
            c.due("undo()", x.undo(), left);
        }
        c.due("undo()", x.undo(), -1);
    }

    static void t4TheLatest() {
        SentencesTest.holds(TERMS, "undo() takes back the latest one that is not taken back,");
        LampPlate x = Plates.made(1, 12, 1);
        x.light(0, 1);
        x.light(0, 2);
        x.light(0, 3);
        x.undo();
        c.due("shown(0)", x.shown(0), 2);
        x.undo();
        c.due("shown(0)", x.shown(0), 1);
        x.light(0, 4);
        x.light(0, 5);
        x.undo();
        c.due("shown(0)", x.shown(0), 4);
        x.undo();
        c.due("shown(0)", x.shown(0), 1);
        x.undo();
        c.due("shown(0)", x.shown(0), 0);
        c.due("undo()", x.undo(), -1);
    }

    static void t4AtMost60() {
        SentencesTest.holds(TERMS, "at most 60 of them,");
        LampPlate x = Plates.made(1, 12, 1);
        for (int i = 1; i <= 130; i++) {
            x.light(0, i % 12);
            c.due("ACTS after " + i, x.count(4), Math.min(60, i));
        }
        for (int i = 1; i <= 60; i++) {
            c.due("undo() number " + i, x.undo(), 60 - i);
            c.due("shown(0)", x.shown(0), (130 - i) % 12);
        }
        c.due("undo() number 61", x.undo(), -1);
        c.due("shown(0)", x.shown(0), 70 % 12);
        LampPlate y = Plates.made(1, 2, 1);
        for (int i = 0; i < 60; i++) {
            y.light(0, 1);
        }
        c.due("undo() of 60", y.undo(), 59);
        y.light(0, 1);
        y.light(0, 1);
        for (int left = 59; left >= 0; left--) {
            c.due("undo() behind the 61st", y.undo(), left);
        }
        c.due("undo()", y.undo(), -1);
        c.due("the first is not taken back", y.shown(0), 1);
    }

    static void t4OfEachKindAtMost60() {
        SentencesTest.holds(TERMS, "at most 60 of them,");
        LampPlate x = Plates.made(2, 5, 1);
        for (int i = 0; i < 16; i++) {
            Plates.plain(x, i % 5, i / 5);
            x.cost(i, 10 + i);
            x.push(i, 1);
        }
        c.due("64 ACTS", x.count(4), 60);
        for (int i = 15; i >= 1; i--) {
            int lit = x.shown(0);
            c.due("undo() of push()", x.undo(), 4 * i - 1);
            c.due("shown(0)", (x.shown(0) + i % 5) % 5, lit);
            c.due("undo() of cost()", x.undo(), 4 * i - 2);
            c.due("undo() of wire()", x.undo(), 4 * i - 3);
            c.due("step(" + i + ", 1)", x.step(i, 1), 0);
            c.due("undo() of button()", x.undo(), 4 * i - 4);
            c.due("buttons", x.count(3), i);
        }
        c.due("undo()", x.undo(), -1);
        c.due("the first one stays", x.count(3), 1);
        c.due("its cost stays", x.cost(0, 1), 10);
    }

    static void t4SincePlateOrBack() {
        SentencesTest.holds(TERMS, "since plate() or back().");
        LampPlate x = new LampPlate();
        x.light(0, 1);
        c.due("of a new object's plate", x.count(4), 1);
        x.keep();
        c.due("keep() ends nothing", x.count(4), 1);
        c.due("plate() refused", x.plate(0, 2, 1), false);
        c.due("that ends nothing", x.count(4), 1);
        x.plate(1, 2, 1);
        c.due("plate()", x.count(4), 0);
        c.due("undo()", x.undo(), -1);
        x.light(0, 1);
        x.light(0, 0);
        x.back();
        c.due("back()", x.count(4), 0);
        c.due("undo()", x.undo(), -1);
        c.due("shown(0)", x.shown(0), 1);
        x.light(0, 0);
        c.due("undo()", x.undo(), 0);
        c.due("shown(0)", x.shown(0), 1);
        LampPlate y = new LampPlate();
        y.light(0, 1);
        c.due("back() refused", y.back(), false);
        c.due("that ends nothing", y.undo(), 0);
    }

    static void t4RowBoardListStay() {
        SentencesTest.holds(TERMS, "(The ROW, the board, THE LIST stay as they are.)");
        LampPlate x = Plates.made(2, 3, 2);
        Plates.plain(x, 1, 2);
        Plates.light(x, 2, 1);
        x.can();
        x.board(1, 2);
        x.entry(1, -1);
        Plates.tell(x, 1, 0);
        for (int i = 0; i < 3; i++) {
            x.undo();
        }
        c.row("behind undo()", x, 2);
        c.due("the board", x.count(7), 2);
        c.due("THE LIST", x.tell(0), 3);
        c.due("wire(0)", x.wire(0), 1);
        c.steps(x, 0, 0, 2);
        c.due("undo() of wire()", x.undo(), 1);
        c.due("brings no board back", x.count(7), -1);
        x.can();
        c.due("apply()", x.apply(), 0);
        x.light(1, 1);
        c.due("can()", x.can(), 0);
        c.row("why", x, 0, 1);
        x.undo();
        c.row("why, behind undo()", x, 0, 1);
    }
}
