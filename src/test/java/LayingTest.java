/** Promises 13 to 17: grout, lay, dry, strips, pass. */
public final class LayingTest {
    public static void main(String[] args) {
        promise13Grout();
        promise14Hours();
        promise14WaitsForAllAhead();
        promise14FreezesTheStripAlone();
        promise15Dry();
        promise16Strips();
        promise17Pass();
        Due.end();
    }

    private static void promise13Grout() {
        Groutline x = new Groutline();
        Due.is("grout(48)", x.grout(48), 6);
        Due.is("grout(0)", x.grout(0), 48);
        x.lay(3);
        Due.is("dry at its end", x.dry(3), 2);
        Due.is("grout(5) with a strip laid", x.grout(5), 0);
        Due.is("a strip that is laid stays", x.dry(3), 2);
        x.lay(2);
        Due.is("a strip laid from now on", x.dry(2), 4 + 5);
    }

    private static void promise14Hours() {
        Groutline x = new Groutline();
        Due.is("6 pieces take 2 hours", x.lay(3), 2);
        Due.is("and 2 more", x.lay(2), 4);
        Due.is("the time is so much later", x.pass(1), 5);
        Groutline y = new Groutline();
        y.plan(3, 3, 0, Groutline.STRAIGHT);
        Due.is("4 pieces take 1 hour", y.lay(2), 1);
        y.grout(0);
        Groutline z = new Groutline();
        z.plan(3, 1, 0, Groutline.BOND);
        Due.is("5 pieces take 2 hours", z.lay(7), 2);
        Due.is("4 pieces take 1 hour more", z.lay(6), 3);
        Groutline edges = new Groutline();
        edges.plan(4, 4, 2, Groutline.STRAIGHT);
        Due.is("12 edges take 3 hours", edges.lay(4), 3);
        Due.is("2 tiles and 16 edges at the sides take 5", edges.lay(2), 8);
        Due.is("10 edges beside the door take 3", edges.lay(0), 11);
    }

    private static void promise14WaitsForAllAhead() {
        Groutline x = new Groutline();
        Due.is("lay(1)", x.lay(1), 2);
        Due.is("lay(3) at 2, dry at 8", Due.outcome(() -> x.lay(3)), "throws IllegalStateException");
        Due.is("what is behind does not hinder", x.lay(0), 4);
        x.pass(4);
        Due.is("the hour of dry(0)", x.dry(0), 10);
        Due.is("lay(2) at 8, the first strip not dry", Due.outcome(() -> x.lay(2)), "throws IllegalStateException");
        x.pass(1);
        Due.is("lay(2) at 9", Due.outcome(() -> x.lay(2)), "throws IllegalStateException");
        x.pass(1);
        Due.is("lay(2) at 10", x.lay(2), 12);
        x.pass(5);
        Due.is("lay(3) at 17", Due.outcome(() -> x.lay(3)), "throws IllegalStateException");
        x.pass(1);
        Due.is("lay(3) at 18", x.lay(3), 20);
    }

    private static void promise14FreezesTheStripAlone() {
        Groutline x = new Groutline();
        x.plan(1, 1, 0, Groutline.STRAIGHT);
        x.lay(0);
        x.door(6);
        Due.is("the door's old cells stay barred", x.pieceAt(1, 0), Groutline.NONE);
        Due.is("the door's new cells stay free", x.pieceAt(6, 0), 4);
        Due.is("the pieces stay so many", x.piecesAnew(), 94);
        Groutline y = new Groutline();
        y.plan(1, 1, 0, Groutline.STRAIGHT);
        y.lay(1);
        y.door(6);
        Due.is("what is not laid changes", y.pieceAt(6, 0), Groutline.NONE);
        Due.is("where the door was", y.pieceAt(0, 0), 0);
    }

    private static void promise15Dry() {
        Groutline x = new Groutline();
        Due.is("dry(2), not laid", x.dry(2), Groutline.NONE);
        x.pass(10);
        x.lay(2);
        Due.is("dry(2)", x.dry(2), 18);
        x.pass(50);
        Due.is("dry(2) later", x.dry(2), 18);
        Due.is("dry(3), not laid", x.dry(3), Groutline.NONE);
    }

    private static void promise16Strips() {
        int[][] due = {{8, 4, 3, 2}, {8, 5, 4, 4}, {8, 6, 6, 5}};
        Groutline x = new Groutline();
        for (int border = 0; border <= 2; border++) {
            for (int high = 1; high <= 4; high++) {
                x.plan(1, high, border, Groutline.BOND);
                Due.is("strips() of border " + border + ", high " + high, x.strips(), due[border][high - 1]);
            }
        }
        for (int column = 0; column < 12; column++) {
            x.pillar(column, 0, true);
        }
        Due.is("a strip that is all barred counts", x.strips(), 5);
        Due.is("it takes no hour", x.lay(0), 0);
        Due.is("but its grout dries", x.dry(0), 6);
        Due.is("the cart waits for it", Due.outcome(() -> x.lay(1)), "throws IllegalStateException");
    }

    private static void promise17Pass() {
        Groutline x = new Groutline();
        Due.is("pass(1)", x.pass(1), 1);
        Due.is("pass(100)", x.pass(100), 101);
        x.lay(0);
        Due.is("pass(7) behind two hours of laying", x.pass(7), 110);
    }
}
