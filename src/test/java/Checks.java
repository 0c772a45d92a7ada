/** Counts and prints the answers that are not as due. */
final class Checks {
    private String part = "";
    private int wrong;
    private int all;

    void part(String name) {
        part = name;
    }

    String part() {
        return part;
    }

    void due(String call, long got, long want) {
        all++;
        if (got != want) {
            wrong++;
            System.out.println(part + ": " + call + " answered " + got + ", due is " + want);
        }
    }

    void due(String call, boolean got, boolean want) {
        due(call, got ? 1 : 0, want ? 1 : 0);
    }

    /** The whole ROW, and that there is nothing behind it. */
    void row(String after, LampPlate x, int... want) {
        due("row(-1) " + after, x.row(-1), -1);
        for (int i = 0; i < want.length; i++) {
            due("row(" + i + ") " + after, x.row(i), want[i]);
        }
        due("row(" + want.length + ") " + after, x.row(want.length), -1);
    }

    /** What all lamps show. */
    void shown(String after, LampPlate x, int... want) {
        due("count(0) " + after, x.count(0), want.length);
        for (int i = 0; i < want.length; i++) {
            due("shown(" + i + ") " + after, x.shown(i), want[i]);
        }
    }

    void steps(LampPlate x, int button, int... want) {
        for (int i = 0; i < want.length; i++) {
            due("step(" + button + ", " + i + ")", x.step(button, i), want[i]);
        }
    }

    void end() {
        System.out.println(wrong == 0 ? "all " + all + " answers are as due" : wrong + " answers are not as due");
        if (wrong != 0 || all == 0) {
            System.exit(1);
        }
    }
}
