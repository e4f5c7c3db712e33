/** Each sentence of the promises 5 to 7 that names a boundary case. */
public final class PiecesBoundsTest {
    private static final int[] FAR = {Integer.MIN_VALUE, Integer.MIN_VALUE + 1, -100, 100, Integer.MAX_VALUE};

    public static void main(String[] args) {
        promise5();
        promise6();
        promise7();
        Due.end();
    }

    private static void promise5() {
        String ofPiece = "Promise 5";
        Due.sentence(ofPiece, "`piece`: its number", PiecesBoundsTest::pieceNumber);
        Due.sentence(ofPiece, "`what`: 0 WHOLE to EDGE", PiecesBoundsTest::what0);
        Due.sentence(ofPiece, "1 the column, 2 the row of its first cell, by which it is numbered",
                PiecesBoundsTest::what1And2);
        Due.sentence(ofPiece, "3 its cells", PiecesBoundsTest::what3);
        Due.sentence(ofPiece, "4 its strip", PiecesBoundsTest::what4);
        Due.sentence(ofPiece, "5 the piece at whose cutting the rest was left from which it is cut, NONE if from none",
                PiecesBoundsTest::what5);
        Due.sentence(ofPiece, "Throws `IndexOutOfBoundsException` if there is no such piece",
                PiecesBoundsTest::ofPieceThrowsWithoutAPiece);
        Due.sentence(ofPiece, "Throws `IllegalArgumentException` if what is out of range",
                PiecesBoundsTest::ofPieceThrowsForWhat);
    }

    private static void pieceNumber() {
        Groutline few = Floors.planned(4, 4, 0, Groutline.STRAIGHT);
        Due.is("the first one of 6", Due.pieceOf(few, 0), " 1 2 0 14 0 -1");
        Due.is("the last one of 6", Due.pieceOf(few, 5), " 0 8 4 16 1 -1");
        Groutline many = Floors.planned(1, 1, 0, Groutline.STRAIGHT);
        Due.is("the last one of 94", Due.pieceOf(many, 93), " 0 11 7 1 7 -1");
        Groutline one = Floors.allBarred();
        one.pillar(11, 7, false);
        Due.is("the only one", Due.pieceOf(one, 0), " 1 11 7 1 3 -1");
    }

    private static void what0() {
        Groutline x = Floors.planned(2, 2, 1, Groutline.BOND);
        Due.is("a WHOLE", x.ofPiece(x.pieceAt(1, 1), 0), 0);
        Due.is("a CUT", x.ofPiece(x.pieceAt(1, 3), 0), 1);
        Due.is("an EDGE", x.ofPiece(x.pieceAt(0, 1), 0), 2);
    }

    private static void what1And2() {
        Groutline x = Floors.planned(1, 1, 0, Groutline.STRAIGHT);
        x.door(5);
        Due.is("the first column", x.ofPiece(0, 1), 0);
        Due.is("the first row", x.ofPiece(0, 2), 0);
        Due.is("the last column", x.ofPiece(93, 1), 11);
        Due.is("the last row", x.ofPiece(93, 2), 7);
        Groutline four = Floors.planned(4, 4, 0, Groutline.STRAIGHT);
        Floors.bar(four, 4, 0, 7, 2);
        Floors.bar(four, 4, 3, 6, 3);
        Due.is("the one cell at the end of a tile", Due.pieceOf(four, four.pieceAt(7, 3)).substring(0, 6), " 1 7 3");
        four.pillar(5, 1, false);
        Due.is("a cell farther up, though farther to the left", Due.pieceOf(four, four.pieceAt(7, 3)).substring(0, 6),
                " 1 5 1");
        four.pillar(6, 0, false);
        Due.is("a cell farther up, though farther to the right", Due.pieceOf(four, four.pieceAt(7, 3)).substring(0, 6),
                " 1 6 0");
    }

    private static void what3() {
        Groutline x = Floors.planned(4, 4, 0, Groutline.STRAIGHT);
        int piece = x.pieceAt(11, 7);
        for (int n = 0; n < 15; n++) {
            Due.is("cells of a tile with " + n + " pillars", x.ofPiece(piece, 3), 16 - n);
            x.pillar(8 + n % 4, 4 + n / 4, true);
        }
        Due.is("the last cell of a tile", x.ofPiece(piece, 3), 1);
    }

    private static void what4() {
        Groutline x = Floors.planned(4, 3, 2, Groutline.STRAIGHT);
        int[] strips = {0, 1, 2, 2, 2, 3, 4, 5};
        for (int row = 0; row < 8; row++) {
            Due.is("the left end of row " + row, row == 0 || x.ofPiece(x.pieceAt(0, row), 4) == strips[row], true);
            Due.is("the right end of row " + row, x.ofPiece(x.pieceAt(11, row), 4), strips[row]);
            Due.is("the middle of row " + row, x.ofPiece(x.pieceAt(5, row), 4), strips[row]);
        }
        x.plan(1, 1, 0, Groutline.STRAIGHT);
        Due.is("the first strip", x.ofPiece(0, 4), 0);
        Due.is("the last strip", x.ofPiece(93, 4), 7);
    }

    private static void what5() {
        Groutline x = Floors.planned(4, 4, 0, Groutline.BOND);
        Due.is("a WHOLE is cut from none", x.ofPiece(1, 5), Groutline.NONE);
        Due.is("a CUT of a new tile is cut from none", x.ofPiece(3, 5), Groutline.NONE);
        Due.is("a CUT of a rest", x.ofPiece(6, 5), 3);
        x.plan(4, 4, 1, Groutline.BOND);
        Due.is("an EDGE is cut from none", x.ofPiece(0, 5), Groutline.NONE);
        Groutline first = Floors.planned(3, 1, 0, Groutline.STRAIGHT);
        first.pillar(3, 0, true);
        first.pillar(4, 0, true);
        Due.is("the first piece's rest", Due.pieceOf(first, 1), " 1 5 0 1 0 0");
        Groutline chain = Floors.planned(4, 1, 0, Groutline.STRAIGHT);
        chain.door(10);
        Floors.bar(chain, 1, 2, 3, 2);
        Floors.bar(chain, 5, 2, 7, 2);
        Floors.bar(chain, 9, 2, 11, 2);
        Due.is("a cell takes of the door's rest", chain.ofPiece(6, 5), 2);
        Due.is("the next one of what the one before it left", chain.ofPiece(7, 5), 6);
        Due.is("the third one takes a new tile", chain.ofPiece(8, 5), Groutline.NONE);
    }

    private static void ofPieceThrowsWithoutAPiece() {
        refusesPiece(() -> Floors.planned(4, 4, 0, Groutline.STRAIGHT), -1);
        refusesPiece(() -> Floors.planned(4, 4, 0, Groutline.STRAIGHT), 6);
        refusesPiece(() -> Floors.planned(1, 1, 0, Groutline.STRAIGHT), 94);
        refusesPiece(() -> Floors.planned(1, 1, 0, Groutline.STRAIGHT), 95);
        refusesPiece(() -> Floors.planned(1, 1, 0, Groutline.STRAIGHT), 96);
        refusesPiece(PiecesBoundsTest::fewerThanBefore, 6);
        refusesPiece(Floors::allBarred, 0);
        refusesPiece(Floors::allBarred, -1);
        for (int far : FAR) {
            refusesPiece(Floors::changed, far);
            refusesPiece(Floors::changedAndLaid, far);
        }
        Due.refused(Groutline::new, "ofPiece(-1, 6)", Due.OUTSIDE, x -> x.ofPiece(-1, 6));
        Due.refused(Groutline::new, "ofPiece(24, -1)", Due.OUTSIDE, x -> x.ofPiece(24, -1));
    }

    private static void ofPieceThrowsForWhat() {
        refusesWhat(-1);
        refusesWhat(6);
        for (int far : FAR) {
            refusesWhat(far);
        }
    }

    private static void promise6() {
        String pieceAt = "Promise 6";
        Due.sentence(pieceAt, "`column`: 0 to 11", PiecesBoundsTest::pieceAtColumn);
        Due.sentence(pieceAt, "`row`: 0 to 7", PiecesBoundsTest::pieceAtRow);
        Due.sentence(pieceAt, "Returns the piece; NONE if it is barred.", PiecesBoundsTest::pieceAtReturnsNoneIfBarred);
        Due.sentence(pieceAt, "Throws `IndexOutOfBoundsException` if there is no such cell",
                PiecesBoundsTest::pieceAtThrowsWithoutACell);
    }

    private static void pieceAtColumn() {
        Groutline x = Floors.planned(1, 1, 0, Groutline.STRAIGHT);
        for (int column = 0; column <= 11; column++) {
            Due.is("pieceAt(" + column + ", 3)", x.pieceAt(column, 3), 10 + 24 + column);
        }
        refusesCell(-1, 3);
        refusesCell(12, 3);
        for (int far : FAR) {
            refusesCell(far, 3);
        }
    }

    private static void pieceAtRow() {
        Groutline x = Floors.planned(1, 1, 0, Groutline.STRAIGHT);
        for (int row = 0; row <= 7; row++) {
            Due.is("pieceAt(2, " + row + ")", x.pieceAt(2, row), 12 * row);
        }
        refusesCell(2, -1);
        refusesCell(2, 8);
        for (int far : FAR) {
            refusesCell(2, far);
        }
    }

    private static void pieceAtReturnsNoneIfBarred() {
        Groutline x = new Groutline();
        Due.is("the door", x.pieceAt(1, 0), Groutline.NONE);
        x.pillar(11, 7, true);
        Due.is("a pillar", x.pieceAt(11, 7), Groutline.NONE);
        Due.is("the rest of its tile", x.pieceAt(11, 6), 23);
        Groutline barred = Floors.allBarred();
        for (int cell = 0; cell < 96; cell++) {
            Due.is("cell " + cell + " with all barred", barred.pieceAt(cell % 12, cell / 12), Groutline.NONE);
        }
    }

    private static void pieceAtThrowsWithoutACell() {
        refusesCell(-1, -1);
        refusesCell(12, 8);
        refusesCell(12, 0);
        refusesCell(0, 8);
        refusesCell(12, -1);
        refusesCell(-1, 8);
    }

    private static void promise7() {
        String anew = "Promise 7";
        Due.sentence(anew, "Returns how many pieces there are, found cell by cell", PiecesBoundsTest::anewAsManyAsThereAre);
        Due.sentence(anew, "a cell counts, if it is not barred", PiecesBoundsTest::anewWithoutBarredCells);
        Due.sentence(anew, "and no cell of its piece comes ahead of it", PiecesBoundsTest::anewOncePerPiece);
    }

    private static void anewAsManyAsThereAre() {
        for (int plan = 0; plan < 96; plan++) {
            Groutline x = new Groutline();
            int count = x.plan(plan % 4 + 1, plan / 4 % 4 + 1, plan / 16 % 3, plan / 48);
            int greatest = 0;
            for (int cell = 0; cell < 96; cell++) {
                greatest = Math.max(greatest, x.pieceAt(cell % 12, cell / 12));
            }
            Due.is("piecesAnew() of plan " + plan, x.piecesAnew(), count);
            Due.is("the greatest number of plan " + plan, greatest, count - 1);
        }
    }

    private static void anewWithoutBarredCells() {
        Groutline x = Floors.allBarred();
        Due.is("none, with all barred", x.piecesAnew(), 0);
        x.pillar(0, 7, false);
        Due.is("one, with one cell", x.piecesAnew(), 1);
        x.pillar(0, 0, false);
        Due.is("the door's cell does not count", x.piecesAnew(), 1);
        x.door(10);
        Due.is("it counts without the door", x.piecesAnew(), 2);
    }

    private static void anewOncePerPiece() {
        Groutline x = Floors.allBarred();
        x.pillar(11, 7, false);
        x.pillar(10, 7, false);
        Due.is("a cell ahead of it in its row", x.piecesAnew(), 1);
        x.pillar(11, 6, false);
        Due.is("a cell ahead of it in the row above, to the right", x.piecesAnew(), 1);
        x.pillar(9, 7, false);
        Due.is("the cell beside it is of another tile", x.piecesAnew(), 2);
        x.pillar(10, 5, false);
        Due.is("the cell above it is of another tile", x.piecesAnew(), 3);
    }

    private static Groutline fewerThanBefore() {
        Groutline x = Floors.planned(1, 1, 0, Groutline.STRAIGHT);
        x.plan(4, 4, 0, Groutline.STRAIGHT);
        return x;
    }

    private static void refusesPiece(Due.Made made, int piece) {
        for (int what = -1; what <= 6; what++) {
            int asked = what;
            Due.is("ofPiece(" + piece + ", " + what + ")", Due.outcome(() -> made.floor().ofPiece(piece, asked)),
                    "throws IndexOutOfBoundsException");
        }
        Due.refused(made, "ofPiece(" + piece + ", 0)", Due.OUTSIDE, x -> x.ofPiece(piece, 0));
    }

    private static void refusesWhat(int what) {
        Due.refused(Floors::changed, "ofPiece(0, " + what + ")", Due.ARGUMENT, x -> x.ofPiece(0, what));
        Due.refused(Floors::changedAndLaid, "ofPiece(20, " + what + ")", Due.ARGUMENT, x -> x.ofPiece(20, what));
        Due.refused(Groutline::new, "ofPiece(23, " + what + ")", Due.ARGUMENT, x -> x.ofPiece(23, what));
    }

    private static void refusesCell(int column, int row) {
        Due.refused(Floors::changed, "pieceAt(" + column + ", " + row + ")", Due.OUTSIDE, x -> x.pieceAt(column, row));
    }
}
