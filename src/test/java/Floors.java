/** Floors that several tests begin with. */
final class Floors {
    private Floors() {
    }

    static Groutline planned(int wide, int high, int border, int pattern) {
        Groutline x = new Groutline();
        x.plan(wide, high, border, pattern);
        return x;
    }

    /** Puts pillars on the cells from (left, top) to (right, bottom). */
    static Groutline bar(Groutline x, int left, int top, int right, int bottom) {
        for (int row = top; row <= bottom; row++) {
            for (int column = left; column <= right; column++) {
                x.pillar(column, row, true);
            }
        }
        return x;
    }

    static Groutline allBarred() {
        return bar(new Groutline(), 0, 0, 11, 7);
    }

    /** As many crates as the stack takes: for the floors 1, 2, .. 9, 0, 1, .. 0, with 1 to 20 tiles. */
    static Groutline with20Crates() {
        Groutline x = new Groutline();
        for (int n = 1; n <= 20; n++) {
            x.crate(n % 10, n);
        }
        return x;
    }

    /** A floor on which nothing is as at first, and no strip is laid. */
    static Groutline changed() {
        Groutline x = planned(3, 2, 1, Groutline.BOND);
        x.pillar(4, 4, true);
        x.pillar(7, 1, true);
        x.door(5);
        x.crate(3, 30);
        x.crate(4, 40);
        x.crate(3, 50);
        x.fetch(4);
        x.grout(9);
        x.pass(7);
        return x;
    }

    /** The same one with two strips laid, of which the one behind has no effect on the one ahead. */
    static Groutline changedAndLaid() {
        Groutline x = changed();
        x.lay(3);
        x.lay(1);
        return x;
    }
}
