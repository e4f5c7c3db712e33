/** Promises 1 to 4: a new object, plan, pillar, door. */
public final class PlanTest {
    public static void main(String[] args) {
        promise1NewObject();
        promise2PlanCounts();
        promise2PlanKeepsPillarsAndDoor();
        promise3Pillar();
        promise3PillarUnderTheDoor();
        promise4Door();
        promise4DoorStaysForLaidStrips();
        Due.end();
    }

    private static void promise1NewObject() {
        Groutline x = new Groutline();
        Due.is("pieces of a new floor", x.piecesAnew(), 24);
        Due.is("tiles of a new floor", x.tiles(), 24);
        Due.is("strips of a new floor", x.strips(), 4);
        Due.is("moves of a new floor", x.moves(), 0);
        Due.is("the new door's first cell", x.pieceAt(0, 0), Groutline.NONE);
        Due.is("the new door's second cell", x.pieceAt(1, 0), Groutline.NONE);
        Due.is("beside the new door", x.pieceAt(2, 0), 0);
        Due.is("under the new door", x.pieceAt(0, 1), 5);
        Due.is("the last piece of a new floor", Due.pieceOf(x, 23), " 0 10 6 4 3 -1");
        Due.is("rests of a new floor", Due.restsOf(x), " 21");
        Due.is("nothing is laid on a new floor", x.dry(0), Groutline.NONE);
        Due.is("no crates on a new floor", x.fetch(0), Groutline.NONE);
        Due.is("the first hour of a new floor is 0", x.pass(1), 1);
        Due.is("the grout of a new floor", x.grout(0), 6);
    }

    private static void promise2PlanCounts() {
        Groutline x = new Groutline();
        Due.is("plan(1, 1, 0, STRAIGHT)", x.plan(1, 1, 0, Groutline.STRAIGHT), 94);
        Due.is("plan(4, 4, 0, STRAIGHT)", x.plan(4, 4, 0, Groutline.STRAIGHT), 6);
        Due.is("plan(4, 4, 0, BOND)", x.plan(4, 4, 0, Groutline.BOND), 7);
        Due.is("plan(1, 4, 0, BOND): half of 1 is 0", x.plan(1, 4, 0, Groutline.BOND), 24);
        Due.is("plan(3, 1, 0, BOND): 4 and 5 by turns", x.plan(3, 1, 0, Groutline.BOND), 36);
        Due.is("plan(3, 3, 0, STRAIGHT)", x.plan(3, 3, 0, Groutline.STRAIGHT), 12);
        Due.is("plan(2, 2, 1, STRAIGHT)", x.plan(2, 2, 1, Groutline.STRAIGHT), 34 + 15);
        Due.is("plan(4, 4, 2, STRAIGHT)", x.plan(4, 4, 2, Groutline.STRAIGHT), 62 + 2);
        Due.is("plan(4, 1, 2, BOND)", x.plan(4, 1, 2, Groutline.BOND), 62 + 2 + 3 + 2 + 3);
    }

    private static void promise2PlanKeepsPillarsAndDoor() {
        Groutline x = new Groutline();
        x.pillar(7, 3, true);
        x.door(4);
        Due.is("plan(1, 1, 0, STRAIGHT) with a pillar", x.plan(1, 1, 0, Groutline.STRAIGHT), 93);
        Due.is("the pillar after plan", x.pieceAt(7, 3), Groutline.NONE);
        Due.is("the door after plan", x.pieceAt(4, 0), Groutline.NONE);
        Due.is("where the door was", x.pieceAt(0, 0), 0);
    }

    private static void promise3Pillar() {
        Groutline x = new Groutline();
        Due.is("pillar(5, 5, false) on none", x.pillar(5, 5, false), false);
        Due.is("pillar(5, 5, true)", x.pillar(5, 5, true), false);
        Due.is("pillar(5, 5, true) again", x.pillar(5, 5, true), true);
        Due.is("the pillar's cell", x.pieceAt(5, 5), Groutline.NONE);
        Due.is("the cut at the pillar", Due.pieceOf(x, 14), " 1 4 4 3 2 -1");
        Due.is("pillar(5, 5, false)", x.pillar(5, 5, false), true);
        Due.is("the cell without the pillar", x.pieceAt(5, 5), 14);
        Due.is("the piece without the pillar", Due.pieceOf(x, 14), " 0 4 4 4 2 -1");
        Due.is("pillar(11, 7, true)", x.pillar(11, 7, true), false);
        Due.is("the last cell", x.pieceAt(11, 7), Groutline.NONE);
        x.plan(1, 1, 0, Groutline.STRAIGHT);
        Due.is("a tile of one barred cell is no piece", x.piecesAnew(), 93);
    }

    private static void promise3PillarUnderTheDoor() {
        Groutline x = new Groutline();
        Due.is("the door is no pillar", x.pillar(0, 0, true), false);
        x.door(5);
        Due.is("the pillar stays behind the door", x.pieceAt(0, 0), Groutline.NONE);
        Due.is("the door's other cell is free", x.pieceAt(1, 0), 0);
        Due.is("the pillar from under the door", x.pillar(0, 0, false), true);
        Due.is("all cells behind the door are free", x.pieceAt(0, 0), 0);
    }

    private static void promise4Door() {
        Groutline x = new Groutline();
        Due.is("door(1)", x.door(1), 24);
        Due.is("left of the door", x.pieceAt(0, 0), 0);
        Due.is("the door's first cell", x.pieceAt(1, 0), Groutline.NONE);
        Due.is("the door's second cell", x.pieceAt(2, 0), Groutline.NONE);
        Due.is("right of the door", x.pieceAt(3, 0), 1);
        Due.is("under the door", x.pieceAt(1, 1), 0);
        Due.is("door(10)", x.door(10), 24);
        Due.is("the last column", x.pieceAt(11, 0), Groutline.NONE);
        x.plan(2, 1, 0, Groutline.STRAIGHT);
        Due.is("door(4) on a whole tile", x.door(4), 47);
        Due.is("door(3) on two halves", x.door(3), 48);
    }

    private static void promise4DoorStaysForLaidStrips() {
        Groutline x = new Groutline();
        x.plan(2, 1, 0, Groutline.STRAIGHT);
        x.lay(3);
        Due.is("door(3), the strip 0 not laid", x.door(3), 48);
        Due.is("the door has moved", x.pieceAt(0, 0), 0);
        x.lay(0);
        String laid = Due.numbersOf(x);
        Due.is("door(6), the strip 0 laid", x.door(6), 48);
        Due.is("all cells after the door has moved", Due.numbersOf(x), laid);
        Due.is("door(3) again", x.door(3), 48);
        Due.is("all cells after the door is back", Due.numbersOf(x), laid);
        Groutline y = new Groutline();
        y.plan(2, 2, 1, Groutline.STRAIGHT);
        y.lay(1);
        y.door(7);
        Due.is("a laid course leaves the border above it to the door", y.pieceAt(7, 0), Groutline.NONE);
        Due.is("where the door was", y.pieceAt(0, 0), 0);
    }
}
