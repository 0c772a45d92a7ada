/** Plates that many tests begin with. */
final class Plates {
    static final int MIN = Integer.MIN_VALUE;
    static final int MAX = Integer.MAX_VALUE;

    private Plates() {
    }

    static LampPlate made(int lamps, int colours, int width) {
        LampPlate x = new LampPlate();
        if (!x.plate(lamps, colours, width)) {
            throw new IllegalStateException("no plate of " + lamps + ", " + colours + ", " + width);
        }
        return x;
    }

    /** A CROSS of each lamp that adds 1. */
    static LampPlate crosses(int lamps, int colours, int width) {
        LampPlate x = made(lamps, colours, width);
        for (int lamp = 0; lamp < lamps; lamp++) {
            x.button(1, lamp, 1, 0);
        }
        return x;
    }

    /** One lamp in each row, and a button of its own for it that adds 1. */
    static LampPlate dots(int lamps, int colours) {
        LampPlate x = made(lamps, colours, 1);
        for (int lamp = 0; lamp < lamps; lamp++) {
            x.button(2, lamp, 1, 0);
        }
        return x;
    }

    /** One lamp, and buttons that change nothing. */
    static LampPlate idle(int buttons, int colours) {
        LampPlate x = made(1, colours, 1);
        for (int button = 0; button < buttons; button++) {
            x.button(0, 0, 0, 0);
        }
        return x;
    }

    /** A PLAIN button with these steps: its number. */
    static int plain(LampPlate x, int... steps) {
        int button = x.button(0, 0, 0, 0);
        wire(x, button, steps);
        return button;
    }

    static int wire(LampPlate x, int button, int... steps) {
        x.board(0, steps.length);
        for (int i = 0; i < steps.length; i++) {
            x.entry(i, steps[i]);
        }
        return x.wire(button);
    }

    static void light(LampPlate x, int... v) {
        for (int lamp = 0; lamp < v.length; lamp++) {
            x.light(lamp, v[lamp]);
        }
    }

    static void tell(LampPlate x, int... v) {
        for (int number : v) {
            x.tell(number);
        }
    }

    static int tellAndCheck(LampPlate x, int what, int... v) {
        tell(x, v);
        return x.check(what);
    }
}
