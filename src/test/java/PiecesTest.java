/** Promises 5 to 7: ofPiece, pieceAt, piecesAnew. */
public final class PiecesTest {
    public static void main(String[] args) {
        promise5Kinds();
        promise5Strips();
        promise5Sources();
        promise6Numbers();
        promise6Bond();
        promise6OnePieceOnBothSidesOfAPillar();
        promise7Anew();
        Due.end();
    }

    private static void promise5Kinds() {
        Groutline x = new Groutline();
        x.plan(3, 2, 1, Groutline.BOND);
        Due.is("the first edge", Due.pieceOf(x, 0), " 2 2 0 1 0 -1");
        Due.is("an edge at the left", Due.pieceOf(x, x.pieceAt(0, 2)), " 2 0 2 1 1 -1");
        Due.is("a whole tile", Due.pieceOf(x, x.pieceAt(1, 1)), " 0 1 1 6 1 -1");
        Due.is("a cut at the left of the second course", Due.pieceOf(x, x.pieceAt(1, 3)), " 1 1 3 4 2 14");
        Due.is("a cut at the right of the first course", Due.pieceOf(x, x.pieceAt(10, 1)), " 1 10 1 2 1 -1");
        x.plan(1, 1, 0, Groutline.STRAIGHT);
        Due.is("a tile of one cell is whole", Due.pieceOf(x, 0), " 0 2 0 1 0 -1");
    }

    private static void promise5Strips() {
        Groutline x = new Groutline();
        x.plan(4, 3, 2, Groutline.STRAIGHT);
        int[] strips = {0, 1, 2, 2, 2, 3, 4, 5};
        for (int row = 0; row < 8; row++) {
            Due.is("strip of the edge in row " + row, x.ofPiece(x.pieceAt(11, row), 4), strips[row]);
            Due.is("strip of the middle in row " + row, x.ofPiece(x.pieceAt(5, row), 4), strips[row]);
        }
        x.plan(4, 3, 0, Groutline.STRAIGHT);
        Due.is("strip of a course that is cut off", x.ofPiece(x.pieceAt(5, 7), 4), 2);
    }

    private static void promise5Sources() {
        Groutline x = new Groutline();
        x.plan(4, 4, 0, Groutline.BOND);
        Due.is("whole tiles have no source", x.ofPiece(0, 5), Groutline.NONE);
        Due.is("the cut that makes the rest", x.ofPiece(3, 5), Groutline.NONE);
        Due.is("the cut from the rest", x.ofPiece(6, 5), 3);
        x.plan(4, 1, 0, Groutline.STRAIGHT);
        x.door(0);
        Due.is("a cut of 2", Due.pieceOf(x, 0), " 1 2 0 2 0 -1");
        x.pillar(0, 3, true);
        x.pillar(4, 3, true);
        Due.is("a cut of 3 finds no rest that is wide enough", Due.pieceOf(x, x.pieceAt(1, 3)), " 1 1 3 3 3 -1");
        x.pillar(9, 5, true);
        Due.is("a cut of 4 wide about a pillar", Due.pieceOf(x, x.pieceAt(8, 5)), " 1 8 5 3 5 -1");
        x.pillar(10, 6, true);
        x.pillar(11, 6, true);
        Due.is("a cut of 2 from the oldest rest of 2", Due.pieceOf(x, x.pieceAt(8, 6)), " 1 8 6 2 6 0");
    }

    private static void promise6Numbers() {
        Groutline x = new Groutline();
        x.pillar(2, 0, true);
        x.pillar(3, 0, true);
        Due.is("the first free tile", x.pieceAt(4, 0), 0);
        Due.is("under the door, by the row 1", x.pieceAt(0, 1), 4);
        Due.is("under the pillars, by the row 1", x.pieceAt(3, 1), 5);
        Due.is("the next course", x.pieceAt(0, 2), 6);
        x.plan(2, 2, 1, Groutline.STRAIGHT);
        Due.is("an edge at the left comes ahead of its row", x.pieceAt(0, 1), 8);
        Due.is("the first tile", x.pieceAt(1, 1), 9);
        Due.is("its lower cell", x.pieceAt(2, 2), 9);
        Due.is("the edge at the right", x.pieceAt(11, 1), 14);
        Due.is("the edge at the left of row 2", x.pieceAt(0, 2), 15);
    }

    private static void promise6Bond() {
        Groutline x = new Groutline();
        x.plan(4, 1, 0, Groutline.BOND);
        Due.is("the half tile at the left", x.pieceAt(1, 1), 3);
        Due.is("the next tile", x.pieceAt(2, 1), 4);
        Due.is("the half tile at the right", x.pieceAt(10, 1), 6);
        Due.is("the third course is as the first", x.pieceAt(3, 2), 7);
        x.plan(3, 1, 0, Groutline.BOND);
        Due.is("half of 3 is 1: the cut has 2", x.pieceAt(1, 1), x.pieceAt(0, 1));
        Due.is("the tile behind it begins at 2", x.ofPiece(x.pieceAt(2, 1), 1), 2);
        x.plan(4, 2, 2, Groutline.BOND);
        Due.is("in the border it is no tile", x.ofPiece(x.pieceAt(1, 4), 0), Groutline.EDGE);
        Due.is("within, half a tile", Due.pieceOf(x, x.pieceAt(2, 4)), " 1 2 4 4 3 -1");
    }

    private static void promise6OnePieceOnBothSidesOfAPillar() {
        Groutline x = new Groutline();
        x.plan(3, 1, 0, Groutline.STRAIGHT);
        x.pillar(4, 5, true);
        Due.is("left of the pillar", x.pieceAt(3, 5), x.pieceAt(5, 5));
        Due.is("one piece of two cells", Due.pieceOf(x, x.pieceAt(3, 5)), " 1 3 5 2 5 -1");
        Due.is("its rectangle has all of the tile, so no rest but the door's", Due.restsOf(x), " 21");
    }

    private static void promise7Anew() {
        for (int plan = 0; plan < 96; plan++) {
            int wide = plan % 4 + 1, high = plan / 4 % 4 + 1, border = plan / 16 % 3, pattern = plan / 48;
            Groutline x = new Groutline();
            int count = x.plan(wide, high, border, pattern);
            Due.is("piecesAnew() of plan " + plan, x.piecesAnew(), count);
            x.pillar(3, 3, true);
            x.pillar(4, 4, true);
            x.lay(0);
            Due.is("piecesAnew() of plan " + plan + ", the door moved", x.door(4), x.piecesAnew());
        }
        Groutline x = new Groutline();
        for (int column = 0; column < 12; column++) {
            for (int row = 0; row < 8; row++) {
                x.pillar(column, row, true);
            }
        }
        Due.is("piecesAnew() with all barred", x.piecesAnew(), 0);
        Due.is("tiles() with all barred", x.tiles(), 0);
        Due.is("lay(0) with all barred takes no hour", x.lay(0), 0);
    }
}
