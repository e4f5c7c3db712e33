/** Each sentence on THE PLAN, and of the promises 1 to 4, that names a boundary case. */
public final class PlanBoundsTest {
    private static final int[] FAR = {Integer.MIN_VALUE, Integer.MIN_VALUE + 1, -100, 100, Integer.MAX_VALUE};

    public static void main(String[] args) {
        terms();
        promise1();
        promise2();
        promise3();
        promise4();
        Due.end();
    }

    private static void terms() {
        String terms = "Terms";
        Due.sentence(terms, "The floor has 12 columns and 8 rows of cells, 0 from the left and from the top.",
                PlanBoundsTest::floorHas12ColumnsAnd8Rows);
        Due.sentence(terms, "the door, which bars 2 cells side by side in the row 0, from its column on, 0 at first",
                PlanBoundsTest::doorBars2Cells);
        Due.sentence(terms, "A border of 0 to 2 cells goes round along all four sides: its cells are pieces of one cell"
                + " each, EDGEs.", PlanBoundsTest::borderOf0To2Cells);
        Due.sentence(terms, "Within it tiles lie, so many cells wide and high, 1 to 4 each, 2 and 2 at first",
                PlanBoundsTest::tilesOf1To4Cells);
        Due.sentence(terms, "in courses from the first row within the border on", PlanBoundsTest::coursesWithinTheBorder);
        Due.sentence(terms, "in the pattern STRAIGHT the first tile of each course begins at the first column within the"
                + " border", PlanBoundsTest::straightBeginsAtTheFirstColumn);
        Due.sentence(terms, "in BOND that of each second course begins half a tile, rounded down, farther to the left",
                PlanBoundsTest::bondBeginsHalfATileToTheLeft);
        Due.sentence(terms, "A piece is what of a tile, or of an EDGE, lies within and is not barred, if that is a cell at"
                + " least", PlanBoundsTest::pieceHasACellAtLeast);
        Due.sentence(terms, "WHOLE, if it is the whole tile, otherwise a CUT.", PlanBoundsTest::wholeOrCut);
        Due.sentence(terms, "Pieces are numbered from 0, by the rows, then by the columns, of their first cells, from the"
                + " top and then from the left, that are not barred.", PlanBoundsTest::numberedByFirstCells);
    }

    private static void floorHas12ColumnsAnd8Rows() {
        Groutline x = Floors.planned(1, 1, 0, Groutline.STRAIGHT);
        x.door(4);
        Due.is("the cell at the left of the top", x.pieceAt(0, 0), 0);
        Due.is("the cell at the right of the top", x.pieceAt(11, 0), 9);
        Due.is("the cell at the left of the bottom", x.pieceAt(0, 7), 10 + 6 * 12);
        Due.is("the cell at the right of the bottom", x.pieceAt(11, 7), 93);
        Due.is("all cells but the door's", x.piecesAnew(), 12 * 8 - 2);
    }

    private static void doorBars2Cells() {
        Groutline x = Floors.planned(1, 1, 0, Groutline.STRAIGHT);
        Due.is("its first cell", x.pieceAt(0, 0), Groutline.NONE);
        Due.is("its second cell", x.pieceAt(1, 0), Groutline.NONE);
        Due.is("the cell behind it", x.pieceAt(2, 0), 0);
        Due.is("the cell below its first", x.pieceAt(0, 1), 10);
        Due.is("the cell below its second", x.pieceAt(1, 1), 11);
        x.door(10);
        Due.is("the cell ahead of the last door", x.pieceAt(9, 0), 9);
        Due.is("the last door's first cell", x.pieceAt(10, 0), Groutline.NONE);
        Due.is("the last door's second cell", x.pieceAt(11, 0), Groutline.NONE);
        Due.is("the cell below it", x.pieceAt(11, 1), 21);
        Due.is("the first cell", x.pieceAt(0, 0), 0);
    }

    private static void borderOf0To2Cells() {
        int[] edges = {0, 36 - 2, 64 - 2};
        for (int border = 0; border <= 2; border++) {
            Groutline x = Floors.planned(4, 4, border, Groutline.STRAIGHT);
            Due.is("EDGEs of a border of " + border, countOfKind(x, Groutline.EDGE), edges[border]);
            for (int depth = 0; depth <= 2; depth++) {
                boolean due = depth < border;
                String place = "border " + border + ", an EDGE at " + depth + " from ";
                Due.is(place + "the left", isEdge(x, depth, 4), due);
                Due.is(place + "the right", isEdge(x, 11 - depth, 4), due);
                Due.is(place + "the top", isEdge(x, 5, depth), due);
                Due.is(place + "the bottom", isEdge(x, 5, 7 - depth), due);
            }
        }
        Groutline x = Floors.planned(4, 4, 2, Groutline.BOND);
        for (int cell = 2; cell < 12; cell++) {
            Due.is("the EDGE's cells", x.ofPiece(x.pieceAt(cell, 0), 3), 1);
        }
    }

    private static void tilesOf1To4Cells() {
        Groutline anew = new Groutline();
        Due.is("2 by 2 at first", Due.pieceOf(anew, anew.pieceAt(5, 5)), " 0 4 4 4 2 -1");
        for (int wide = 1; wide <= 4; wide++) {
            for (int high = 1; high <= 4; high++) {
                Groutline x = Floors.planned(wide, high, 0, Groutline.STRAIGHT);
                int piece = x.pieceAt(4, 4), column = 4 / wide * wide, row = 4 / high * high;
                boolean isWhole = row + high <= 8;
                Due.is(wide + " by " + high + ", column", x.ofPiece(piece, 1), column);
                Due.is(wide + " by " + high + ", row", x.ofPiece(piece, 2), row);
                Due.is(wide + " by " + high + ", cells", x.ofPiece(piece, 3), isWhole ? wide * high : wide * (8 - row));
            }
        }
    }

    private static void coursesWithinTheBorder() {
        for (int border = 0; border <= 2; border++) {
            for (int high = 1; high <= 4; high++) {
                Groutline x = Floors.planned(1, high, border, Groutline.STRAIGHT);
                for (int row = border; row < 8 - border; row++) {
                    int top = row - (row - border) % high;
                    Due.is("border " + border + ", high " + high + ", the course of row " + row,
                            x.ofPiece(x.pieceAt(5, row), 2), top);
                    Due.is("border " + border + ", high " + high + ", its cells in row " + row,
                            x.ofPiece(x.pieceAt(5, row), 3), Math.min(top + high, 8 - border) - top);
                }
            }
        }
    }

    private static void straightBeginsAtTheFirstColumn() {
        for (int border = 0; border <= 2; border++) {
            for (int wide = 1; wide <= 4; wide++) {
                Groutline x = Floors.planned(wide, 1, border, Groutline.STRAIGHT);
                x.door(10);
                for (int row = border; row < 8 - border; row++) {
                    Due.is("border " + border + ", wide " + wide + ", cells of the first tile of row " + row,
                            Due.pieceOf(x, x.pieceAt(border, row)).startsWith(" 0 " + border + " " + row + " " + wide), true);
                    Due.is("the second tile's column", x.ofPiece(x.pieceAt(border + wide, row), 1), border + wide);
                }
            }
        }
    }

    private static void bondBeginsHalfATileToTheLeft() {
        int[] halves = {0, 0, 1, 1, 2};
        for (int border = 0; border <= 2; border++) {
            for (int wide = 1; wide <= 4; wide++) {
                Groutline x = Floors.planned(wide, 1, border, Groutline.BOND);
                x.door(10);
                for (int row = border; row < 8 - border; row++) {
                    int first = (row - border) % 2 == 0 ? wide : wide - halves[wide];
                    String place = "border " + border + ", wide " + wide + ", row " + row;
                    Due.is(place + ", cells of the first tile", x.ofPiece(x.pieceAt(border, row), 3), first);
                    Due.is(place + ", the second tile's column", x.ofPiece(x.pieceAt(border + first, row), 1),
                            border + first);
                }
            }
        }
        Groutline x = Floors.planned(4, 2, 1, Groutline.BOND);
        int[] firsts = {4, 4, 2, 2, 4, 4};
        for (int row = 1; row <= 6; row++) {
            Due.is("courses of 2 rows, the first tile's columns in row " + row, x.ofPiece(x.pieceAt(1, row), 3) / 2,
                    firsts[row - 1]);
        }
    }

    private static void pieceHasACellAtLeast() {
        Groutline x = new Groutline();
        Floors.bar(x, 4, 4, 5, 4);
        x.pillar(4, 5, true);
        Due.is("a cell of a tile is a piece", Due.pieceOf(x, x.pieceAt(5, 5)), " 1 5 5 1 2 5");
        Due.is("so many pieces", x.piecesAnew(), 24);
        x.pillar(5, 5, true);
        Due.is("no cell is no piece", x.piecesAnew(), 23);
        Due.is("its cell has none", x.pieceAt(5, 5), Groutline.NONE);
        Groutline edges = Floors.planned(2, 2, 1, Groutline.STRAIGHT);
        int count = edges.piecesAnew();
        edges.pillar(0, 4, true);
        Due.is("a barred EDGE is no piece", edges.piecesAnew(), count - 1);
        Groutline bond = Floors.planned(2, 4, 0, Groutline.BOND);
        bond.pillar(5, 0, true);
        Due.is("what lies left of the floor is of no cell", Due.pieceOf(bond, bond.pieceAt(0, 4)), " 1 0 4 4 1 -1");
        Floors.bar(bond, 0, 4, 0, 7);
        Due.is("half a tile at the left, all barred", bond.piecesAnew(), 6 + 6);
    }

    private static void wholeOrCut() {
        Groutline x = Floors.planned(4, 3, 0, Groutline.STRAIGHT);
        int piece = x.pieceAt(4, 3);
        Due.is("all 12 cells", x.ofPiece(piece, 0), Groutline.WHOLE);
        x.pillar(7, 5, true);
        Due.is("11 of 12 cells", x.ofPiece(piece, 0), Groutline.CUT);
        x.pillar(7, 5, false);
        Due.is("12 cells again", x.ofPiece(piece, 0), Groutline.WHOLE);
        Due.is("cut off by the end of the floor", x.ofPiece(x.pieceAt(4, 6), 0), Groutline.CUT);
        x.plan(4, 3, 1, Groutline.BOND);
        Due.is("the last column of a tile cut off by the border", Due.pieceOf(x, x.pieceAt(9, 1)), " 1 9 1 6 1 -1");
        Due.is("a tile up to the border", Due.pieceOf(x, x.pieceAt(7, 4)), " 0 7 4 12 2 -1");
        x.plan(1, 1, 1, Groutline.BOND);
        Due.is("a tile of one cell", x.ofPiece(x.pieceAt(1, 1), 0), Groutline.WHOLE);
        Due.is("an EDGE of one cell", x.ofPiece(x.pieceAt(0, 1), 0), Groutline.EDGE);
    }

    private static void numberedByFirstCells() {
        Groutline x = new Groutline();
        x.door(10);
        Due.is("the first cell of all", x.pieceAt(0, 0), 0);
        x.pillar(0, 0, true);
        Due.is("the tile still comes first", Due.pieceOf(x, 0), " 1 1 0 3 0 -1");
        x.pillar(1, 0, true);
        Due.is("now by its second row", x.pieceAt(0, 1), 4);
        Due.is("its first cell", Due.pieceOf(x, 4), " 1 0 1 2 0 -1");
        x.pillar(0, 1, true);
        Due.is("its column is that of the cell not barred", Due.pieceOf(x, 4), " 1 1 1 1 0 -1");
        Due.is("the tile under the door comes behind it", x.pieceAt(10, 1), 5);
        Due.is("the tile of the next row behind that", x.pieceAt(0, 2), 6);
        Groutline high = Floors.planned(2, 4, 0, Groutline.STRAIGHT);
        Floors.bar(high, 2, 0, 3, 2);
        Due.is("row 1 comes ahead of row 3", high.pieceAt(0, 1), 4);
        Due.is("row 3 comes behind it", high.pieceAt(2, 3), 5);
        Due.is("the last number", high.pieceAt(11, 7), 11);
    }

    private static void promise1() {
        Due.sentence("Promise 1", "Tiles of 2 by 2, STRAIGHT, no border, no pillars.", PlanBoundsTest::newObject);
    }

    private static void newObject() {
        Due.alike("planned 2, 2, 0, STRAIGHT", () -> Floors.planned(2, 2, 0, Groutline.STRAIGHT), Groutline::new);
        Groutline x = new Groutline();
        for (int cell = 0; cell < 96; cell++) {
            Due.is("a pillar on cell " + cell, x.pillar(cell % 12, cell / 12, false), false);
        }
        Due.is("pieces", x.piecesAnew(), 24);
        Due.is("EDGEs", countOfKind(x, Groutline.EDGE), 0);
        Due.is("CUTs", countOfKind(x, Groutline.CUT), 1);
    }

    private static void promise2() {
        String plan = "Promise 2";
        Due.sentence(plan, "`wide`: 1 to 4", PlanBoundsTest::planWide);
        Due.sentence(plan, "`high`: 1 to 4", PlanBoundsTest::planHigh);
        Due.sentence(plan, "`border`: 0 to 2", PlanBoundsTest::planBorder);
        Due.sentence(plan, "`pattern`: STRAIGHT or BOND", PlanBoundsTest::planPattern);
        Due.sentence(plan, "Returns how many pieces there are.", PlanBoundsTest::planReturnsHowMany);
        Due.sentence(plan, "Throws `IllegalArgumentException` if wide, high, border or pattern is out of range",
                PlanBoundsTest::planThrowsForArguments);
        Due.sentence(plan, "Throws `IllegalStateException` if a strip is laid", PlanBoundsTest::planThrowsIfAStripIsLaid);
    }

    private static void planWide() {
        int[] counts = {8 * 6 - 2 + 1 + 1, 24, 16, 12};
        for (int wide = 1; wide <= 4; wide++) {
            Due.is("plan(" + wide + ", 2, 0, STRAIGHT)", new Groutline().plan(wide, 2, 0, 0), counts[wide - 1]);
        }
        refusesPlan(0, 2, 0, 0);
        refusesPlan(-1, 2, 0, 0);
        refusesPlan(5, 2, 0, 0);
        for (int far : FAR) {
            refusesPlan(far, 2, 0, 0);
        }
    }

    private static void planHigh() {
        int[] counts = {6 * 8 - 1, 24, 18, 12};
        for (int high = 1; high <= 4; high++) {
            Due.is("plan(2, " + high + ", 0, STRAIGHT)", new Groutline().plan(2, high, 0, 0), counts[high - 1]);
        }
        refusesPlan(2, 0, 0, 0);
        refusesPlan(2, -1, 0, 0);
        refusesPlan(2, 5, 0, 0);
        for (int far : FAR) {
            refusesPlan(2, far, 0, 0);
        }
    }

    private static void planBorder() {
        int[] counts = {24, 34 + 5 * 3, 62 + 4 * 2};
        for (int border = 0; border <= 2; border++) {
            Due.is("plan(2, 2, " + border + ", STRAIGHT)", new Groutline().plan(2, 2, border, 0), counts[border]);
        }
        refusesPlan(2, 2, -1, 0);
        refusesPlan(2, 2, 3, 0);
        for (int far : FAR) {
            refusesPlan(2, 2, far, 0);
        }
    }

    private static void planPattern() {
        Due.is("plan(4, 1, 0, STRAIGHT)", new Groutline().plan(4, 1, 0, Groutline.STRAIGHT), 24);
        Due.is("plan(4, 1, 0, BOND)", new Groutline().plan(4, 1, 0, Groutline.BOND), 12 + 16);
        refusesPlan(2, 2, 0, -1);
        refusesPlan(2, 2, 0, 2);
        for (int far : FAR) {
            refusesPlan(2, 2, 0, far);
        }
    }

    private static void planReturnsHowMany() {
        Due.is("the most there are", new Groutline().plan(1, 1, 0, 0), 94);
        Due.is("the least of a floor without pillars", new Groutline().plan(4, 4, 0, 0), 6);
        Due.is("none, with all barred", Floors.allBarred().plan(1, 1, 2, 1), 0);
        Groutline one = Floors.allBarred();
        one.pillar(11, 7, false);
        Due.is("one, with one cell", one.plan(4, 4, 0, 1), 1);
        Due.is("as many as piecesAnew()", one.plan(4, 4, 0, 1), one.piecesAnew());
    }

    private static void planThrowsForArguments() {
        refusesPlan(0, 0, 0, 0);
        refusesPlan(5, 5, 3, 2);
        refusesPlan(4, 4, 2, 2);
        refusesPlan(4, 4, 3, 1);
        refusesPlan(4, 5, 2, 1);
        refusesPlan(5, 4, 2, 1);
        refusesPlan(1, 1, 0, -1);
        refusesPlan(1, 1, -1, 0);
    }

    private static void planThrowsIfAStripIsLaid() {
        Due.refused(Floors::changedAndLaid, "plan(1, 1, 0, 0)", Due.STATE, x -> x.plan(1, 1, 0, 0));
        Due.refused(Floors::changedAndLaid, "the same plan", Due.STATE, x -> x.plan(3, 2, 1, 1));
        Due.refused(Floors::changedAndLaid, "plan(0, 1, 0, 0)", Due.ARGUMENT, x -> x.plan(0, 1, 0, 0));
        Due.refused(Floors::changedAndLaid, "plan(1, 5, 0, 0)", Due.ARGUMENT, x -> x.plan(1, 5, 0, 0));
        Due.refused(Floors::changedAndLaid, "plan(1, 1, 3, 0)", Due.ARGUMENT, x -> x.plan(1, 1, 3, 0));
        Due.refused(Floors::changedAndLaid, "plan(1, 1, 0, 2)", Due.ARGUMENT, x -> x.plan(1, 1, 0, 2));
        for (int strip = 0; strip < 4; strip++) {
            int laid = strip;
            Due.refused(() -> laidOnce(new Groutline(), laid), "plan, strip " + strip + " laid", Due.STATE,
                    x -> x.plan(2, 2, 0, 0));
        }
        Due.refused(() -> laidOnce(Floors.allBarred(), 0), "plan, a strip without pieces laid", Due.STATE,
                x -> x.plan(2, 2, 0, 0));
        Due.refused(PlanBoundsTest::laidAndDry, "plan, the strip dry for long", Due.STATE, x -> x.plan(2, 2, 0, 0));
        Groutline tried = new Groutline();
        Due.is("lay(4) of 4", Due.outcome(() -> tried.lay(4)), "throws IndexOutOfBoundsException");
        Due.is("a strip that was refused is not laid", tried.plan(2, 2, 0, 0), 24);
    }

    private static void promise3() {
        String pillar = "Promise 3";
        Due.sentence(pillar, "`column`: 0 to 11", PlanBoundsTest::pillarColumn);
        Due.sentence(pillar, "`row`: 0 to 7", PlanBoundsTest::pillarRow);
        Due.sentence(pillar, "`is`: whether it is there", PlanBoundsTest::pillarIs);
        Due.sentence(pillar, "Returns whether it was.", PlanBoundsTest::pillarReturnsWhetherItWas);
        Due.sentence(pillar, "Throws `IndexOutOfBoundsException` if there is no such cell",
                PlanBoundsTest::pillarThrowsWithoutACell);
        Due.sentence(pillar, "Throws `IllegalStateException` if a strip is laid",
                PlanBoundsTest::pillarThrowsIfAStripIsLaid);
    }

    private static void pillarColumn() {
        Groutline x = Floors.planned(1, 1, 0, Groutline.STRAIGHT);
        for (int column = 0; column <= 11; column++) {
            Due.is("pillar(" + column + ", 4, true)", x.pillar(column, 4, true), false);
            Due.is("its cell", x.pieceAt(column, 4), Groutline.NONE);
            Due.is("so many pieces", x.piecesAnew(), 94 - column - 1);
        }
        refusesPillar(-1, 4);
        refusesPillar(12, 4);
        for (int far : FAR) {
            refusesPillar(far, 4);
        }
    }

    private static void pillarRow() {
        Groutline x = Floors.planned(1, 1, 0, Groutline.STRAIGHT);
        for (int row = 0; row <= 7; row++) {
            Due.is("pillar(4, " + row + ", true)", x.pillar(4, row, true), false);
            Due.is("its cell", x.pieceAt(4, row), Groutline.NONE);
            Due.is("so many pieces", x.piecesAnew(), 94 - row - 1);
        }
        refusesPillar(4, -1);
        refusesPillar(4, 8);
        for (int far : FAR) {
            refusesPillar(4, far);
        }
    }

    private static void pillarIs() {
        Due.alike("a pillar set twice", () -> withPillars(true, true), () -> withPillars(true));
        Due.alike("a pillar set and taken away", () -> withPillars(true, false), Groutline::new);
        Due.alike("a pillar taken away that is not there", () -> withPillars(false), Groutline::new);
        Due.alike("a pillar taken away twice", () -> withPillars(true, false, false), Groutline::new);
    }

    private static void pillarReturnsWhetherItWas() {
        Groutline x = new Groutline();
        Due.is("none, taken away", x.pillar(11, 7, false), false);
        Due.is("none, set", x.pillar(11, 7, true), false);
        Due.is("one, set", x.pillar(11, 7, true), true);
        Due.is("one, taken away", x.pillar(11, 7, false), true);
        Due.is("none again", x.pillar(11, 7, false), false);
        Due.is("the door's cell has none", x.pillar(0, 0, true), false);
        Due.is("but now it has", x.pillar(0, 0, false), true);
        Due.is("the door still bars it", x.pieceAt(0, 0), Groutline.NONE);
    }

    private static void pillarThrowsWithoutACell() {
        refusesPillar(-1, -1);
        refusesPillar(12, 8);
        refusesPillar(12, 7);
        refusesPillar(11, 8);
        refusesPillar(12, -1);
        refusesPillar(-1, 8);
        Due.refused(Floors::changed, "pillar(12, 0, false)", Due.OUTSIDE, x -> x.pillar(12, 0, false));
    }

    private static void pillarThrowsIfAStripIsLaid() {
        for (int strip = 0; strip < 4; strip++) {
            int laid = strip;
            Due.refused(() -> laidOnce(new Groutline(), laid), "pillar, strip " + strip + " laid", Due.STATE,
                    x -> x.pillar(5, 5, true));
        }
        Due.refused(Floors::changedAndLaid, "pillar on a strip that is not laid", Due.STATE, x -> x.pillar(0, 0, true));
        Due.refused(Floors::changedAndLaid, "a pillar taken away", Due.STATE, x -> x.pillar(4, 4, false));
        Due.refused(Floors::changedAndLaid, "a pillar set that is there", Due.STATE, x -> x.pillar(4, 4, true));
        Due.refused(PlanBoundsTest::laidAndDry, "pillar, the strip dry for long", Due.STATE, x -> x.pillar(5, 5, true));
        Due.refused(Floors::changedAndLaid, "pillar(12, 0, true)", Due.OUTSIDE, x -> x.pillar(12, 0, true));
        Due.refused(Floors::changedAndLaid, "pillar(0, 8, true)", Due.OUTSIDE, x -> x.pillar(0, 8, true));
        Due.refused(Floors::changedAndLaid, "pillar(-1, 0, true)", Due.OUTSIDE, x -> x.pillar(-1, 0, true));
        Due.refused(Floors::changedAndLaid, "pillar(0, -1, false)", Due.OUTSIDE, x -> x.pillar(0, -1, false));
    }

    private static void promise4() {
        String door = "Promise 4";
        Due.sentence(door, "`column`: 0 to 10", PlanBoundsTest::doorColumn);
        Due.sentence(door, "Returns how many pieces there are then.", PlanBoundsTest::doorReturnsHowMany);
        Due.sentence(door, "Throws `IndexOutOfBoundsException` if there is no such column",
                PlanBoundsTest::doorThrowsWithoutAColumn);
    }

    private static void doorColumn() {
        Groutline x = Floors.planned(1, 1, 0, Groutline.STRAIGHT);
        for (int column = 0; column <= 10; column++) {
            Due.is("door(" + column + ")", x.door(column), 94);
            for (int cell = 0; cell <= 11; cell++) {
                Due.is("door(" + column + ") bars column " + cell, x.pieceAt(cell, 0) == Groutline.NONE,
                        cell == column || cell == column + 1);
            }
        }
        Due.alike("the door moved to where it is", () -> withDoors(0), Groutline::new);
        Due.alike("the door moved to the end and back", () -> withDoors(10, 0), Groutline::new);
    }

    private static void doorReturnsHowMany() {
        Groutline x = Floors.planned(2, 1, 0, Groutline.STRAIGHT);
        Due.is("a tile less at 10", x.door(10), 47);
        Due.is("two halves at 9", x.door(9), 48);
        Due.is("a tile less at 0", x.door(0), 47);
        Groutline barred = Floors.allBarred();
        Due.is("none, with all barred", barred.door(10), 0);
        barred.pillar(10, 0, false);
        Due.is("none, the one cell under the door", barred.door(10), 0);
        Due.is("one, the door beside it", barred.door(8), 1);
        Due.is("none, the door's second cell on it", barred.door(9), 0);
    }

    private static void doorThrowsWithoutAColumn() {
        int[] wrong = {-1, 11, 12};
        for (int column : wrong) {
            refusesDoor(column);
        }
        for (int column : FAR) {
            refusesDoor(column);
        }
    }

    private static void refusesPlan(int wide, int high, int border, int pattern) {
        Due.refused(Floors::changed, "plan(" + wide + ", " + high + ", " + border + ", " + pattern + ")", Due.ARGUMENT,
                x -> x.plan(wide, high, border, pattern));
    }

    private static void refusesPillar(int column, int row) {
        Due.refused(Floors::changed, "pillar(" + column + ", " + row + ", true)", Due.OUTSIDE,
                x -> x.pillar(column, row, true));
    }

    private static void refusesDoor(int column) {
        Due.refused(Floors::changed, "door(" + column + ")", Due.OUTSIDE, x -> x.door(column));
        Due.refused(Floors::changedAndLaid, "door(" + column + ") with strips laid", Due.OUTSIDE, x -> x.door(column));
    }

    private static Groutline withPillars(boolean... is) {
        Groutline x = new Groutline();
        for (boolean there : is) {
            x.pillar(5, 5, there);
        }
        return x;
    }

    private static Groutline withDoors(int... columns) {
        Groutline x = new Groutline();
        for (int column : columns) {
            x.door(column);
        }
        return x;
    }

    private static Groutline laidOnce(Groutline x, int strip) {
        x.lay(strip);
        return x;
    }

    private static Groutline laidAndDry() {
        Groutline x = laidOnce(new Groutline(), 0);
        x.pass(100);
        return x;
    }

    private static boolean isEdge(Groutline x, int column, int row) {
        return x.ofPiece(x.pieceAt(column, row), 0) == Groutline.EDGE;
    }

    private static int countOfKind(Groutline x, int kind) {
        int count = 0;
        for (int piece = x.piecesAnew() - 1; piece >= 0; piece--) {
            count += x.ofPiece(piece, 0) == kind ? 1 : 0;
        }
        return count;
    }
}
