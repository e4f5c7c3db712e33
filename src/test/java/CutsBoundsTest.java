/** Each sentence on CUTS, and of the promises 8 and 9, that names a boundary case. */
public final class CutsBoundsTest {
    public static void main(String[] args) {
        terms();
        promise8();
        promise9();
        Due.end();
    }

    private static void terms() {
        String terms = "Terms";
        Due.sentence(terms, "Pieces are taken by their numbers.", CutsBoundsTest::takenByTheirNumbers);
        Due.sentence(terms, "A WHOLE takes a new tile, an EDGE none.", CutsBoundsTest::wholeTakesATileEdgeNone);
        Due.sentence(terms, "A CUT needs the least rectangle that has all of its cells", CutsBoundsTest::leastRectangle);
        Due.sentence(terms, "it takes the rest, of those that are left from cuts ahead of it",
                CutsBoundsTest::restFromCutsAhead);
        Due.sentence(terms, "that is high and wide enough", CutsBoundsTest::highAndWideEnough);
        Due.sentence(terms, "and has the least cells", CutsBoundsTest::leastCells);
        Due.sentence(terms, "of several the oldest one", CutsBoundsTest::ofSeveralTheOldest);
        Due.sentence(terms, "without one a new tile", CutsBoundsTest::withoutOneANewTile);
        Due.sentence(terms, "What is left of what it took is cut to the greater one of two",
                CutsBoundsTest::greaterOneOfTwo);
        Due.sentence(terms, "what is to the right of the rectangle, as high as the whole, and what is below it, as wide as"
                + " the whole", CutsBoundsTest::asHighOrWideAsTheWhole);
        Due.sentence(terms, "of two alike the first one", CutsBoundsTest::ofTwoAlikeTheFirst);
        Due.sentence(terms, "that is a rest, if it has a cell.", CutsBoundsTest::restHasACell);
    }

    /** The half tile under the door comes behind the row 0, so it takes what that left. */
    private static void takenByTheirNumbers() {
        Groutline x = Floors.planned(3, 2, 0, Groutline.STRAIGHT);
        Floors.bar(x, 2, 0, 2, 0);
        Floors.bar(x, 10, 0, 11, 1);
        Due.is("the cut at the right comes first", x.ofPiece(2, 5), Groutline.NONE);
        Due.is("the tile under the door comes behind it", Due.pieceOf(x, 3), " 1 0 1 3 0 -1");
        Due.is("the rests in the order of the numbers", Due.restsOf(x), " 22 31");
    }

    private static void wholeTakesATileEdgeNone() {
        Groutline x = Floors.planned(4, 4, 2, Groutline.STRAIGHT);
        Due.is("2 WHOLEs among EDGEs", x.tiles(), 2);
        Floors.bar(x, 2, 2, 9, 5);
        Due.is("EDGEs alone", x.tiles(), 0);
        Due.is("they leave no rests", x.rest(0), Groutline.NONE);
        Groutline y = Floors.planned(1, 1, 1, Groutline.STRAIGHT);
        Due.is("60 WHOLEs of one cell", y.tiles(), 60);
        Groutline z = Floors.planned(2, 1, 0, Groutline.STRAIGHT);
        Floors.bar(z, 2, 0, 2, 0);
        Due.is("a WHOLE takes a new tile, though a rest would do", z.tiles(), 47);
    }

    private static void leastRectangle() {
        Groutline x = Floors.planned(4, 3, 0, Groutline.STRAIGHT);
        x.door(10);
        Groutline one = only(x, 5, 4);
        Due.is("a cell needs 1 by 1", Due.restsOf(one), " 33");
        one.pillar(7, 4, false);
        Due.is("cells at columns 5 and 7 need 3 by 1", Due.restsOf(one), " 42");
        one.pillar(5, 4, true);
        one.pillar(7, 4, true);
        one.pillar(7, 3, false);
        one.pillar(4, 5, false);
        Due.is("cells at two corners need all, so none is left", Due.restsOf(one), "");
        one.pillar(4, 5, true);
        one.pillar(7, 5, false);
        Due.is("cells at rows 3 and 5 need 1 by 3", Due.restsOf(one), " 33");
        one.pillar(6, 4, false);
        Due.is("a third one between them, at the left, needs 2 by 3", Due.restsOf(one), " 23");
    }

    private static void restFromCutsAhead() {
        Groutline x = Floors.planned(4, 1, 0, Groutline.STRAIGHT);
        Floors.bar(x, 1, 0, 3, 0);
        Floors.bar(x, 4, 0, 4, 0);
        Due.is("the first rest is of the second piece, but not for itself", Due.pieceOf(x, 0), " 1 5 0 3 0 -1");
        Due.is("what it left is behind it", Due.restsOf(x), " 11");
        Floors.bar(x, 9, 7, 11, 7);
        Due.is("the last piece takes it", Due.pieceOf(x, x.pieceAt(8, 7)), " 1 8 7 1 7 0");
        Due.is("none is left", x.rest(0), Groutline.NONE);
    }

    /** The first piece needs 2 by 2 of 4 by 4 and leaves 2 by 4; the last one needs more and more of it. */
    private static void highAndWideEnough() {
        Due.is("2 by 4 is just enough", Due.restsOf(needing(2, 4)), "");
        Due.is("2 by 3 of it", Due.restsOf(needing(2, 3)), " 21");
        Due.is("1 by 4 of it", Due.restsOf(needing(1, 4)), " 14");
        Due.is("3 by 1 is too wide", Due.restsOf(needing(3, 1)), " 24 43");
        Due.is("3 by 4 is too wide", Due.restsOf(needing(3, 4)), " 24 14");
        Due.is("4 by 2 is not turned", Due.restsOf(needing(4, 2)), " 24 42");
        Groutline low = Floors.planned(2, 3, 0, Groutline.STRAIGHT);
        Floors.bar(low, 0, 1, 1, 1);
        Due.is("2 by 1 of 2 by 3 leaves 2 by 2, just high enough for 2 by 2", low.ofPiece(low.pieceAt(0, 6), 5),
                low.pieceAt(0, 2));
        Floors.bar(low, 2, 7, 3, 7);
        low.pillar(0, 1, false);
        Due.is("2 by 2 of 2 by 3 leaves 2 by 1, too low for 2 by 2", low.ofPiece(low.pieceAt(0, 6), 5), Groutline.NONE);
        Due.is("and just high enough for 2 by 1", low.ofPiece(low.pieceAt(2, 6), 5), low.pieceAt(0, 1));
    }

    private static void leastCells() {
        Groutline x = Floors.planned(4, 4, 0, Groutline.STRAIGHT);
        x.door(4);
        Floors.bar(x, 2, 0, 3, 3);
        Floors.bar(x, 8, 0, 8, 3);
        Due.is("a rest of 2 by 4 and a younger one of 1 by 4", Due.restsOf(x), " 24 14");
        Floors.bar(x, 1, 4, 3, 7);
        Due.is("1 by 4 takes the one with less cells", Due.restsOf(x), " 24");
        Floors.bar(x, 5, 4, 7, 7);
        Due.is("the next 1 by 4 takes the other", Due.restsOf(x), " 14");
        Groutline y = Floors.planned(4, 4, 0, Groutline.STRAIGHT);
        y.door(4);
        Floors.bar(y, 3, 0, 3, 3);
        Floors.bar(y, 8, 0, 9, 3);
        Due.is("a rest of 1 by 4 and a younger one of 2 by 4", Due.restsOf(y), " 14 24");
        Floors.bar(y, 1, 4, 3, 7);
        Due.is("1 by 4 takes the older one, that has less", Due.restsOf(y), " 24");
    }

    private static void ofSeveralTheOldest() {
        Groutline y = Floors.planned(3, 1, 0, Groutline.STRAIGHT);
        Floors.bar(y, 0, 0, 2, 0);
        y.pillar(3, 1, true);
        y.pillar(6, 1, true);
        y.pillar(9, 1, true);
        Due.is("three rests alike", Due.restsOf(y), " 11 11 11");
        Floors.bar(y, 1, 2, 2, 2);
        Due.is("a cell takes the first of them", y.ofPiece(y.pieceAt(0, 2), 5), y.pieceAt(4, 1));
        Floors.bar(y, 4, 2, 5, 2);
        Due.is("the next one the second", y.ofPiece(y.pieceAt(3, 2), 5), y.pieceAt(7, 1));
        Floors.bar(y, 7, 2, 8, 2);
        Due.is("the next one the third", y.ofPiece(y.pieceAt(6, 2), 5), y.pieceAt(10, 1));
        Due.is("none is left", y.rest(0), Groutline.NONE);
        Groutline alike = Floors.planned(4, 4, 0, Groutline.STRAIGHT);
        Floors.bar(alike, 0, 0, 3, 0);
        alike.door(10);
        Floors.bar(alike, 6, 0, 7, 3);
        Due.is("4 by 1 of a young tile", Due.restsOf(alike), " 24 41");
        Floors.bar(alike, 5, 4, 7, 7);
        Floors.bar(alike, 4, 5, 4, 7);
        Due.is("a cell takes 4 by 1 though 2 by 4 is older", Due.restsOf(alike), " 24 31");
        Due.is("that is what piece 2 left", alike.ofPiece(alike.pieceAt(4, 4), 5), 2);
    }

    private static void withoutOneANewTile() {
        Groutline x = Floors.planned(4, 1, 0, Groutline.STRAIGHT);
        Floors.bar(x, 0, 0, 3, 0);
        Due.is("no cuts at all", x.tiles(), 23);
        x.pillar(4, 0, true);
        Due.is("the first cut has no rest ahead of it", x.ofPiece(0, 5), Groutline.NONE);
        Due.is("so it takes a new tile", x.tiles(), 23);
        x.pillar(8, 0, true);
        Due.is("3 cells do not come of a rest of 1", x.ofPiece(1, 5), Groutline.NONE);
        Due.is("so that takes a new tile too", x.tiles(), 23);
        x.pillar(9, 0, true);
        x.pillar(10, 0, true);
        Due.is("1 cell comes of it", x.ofPiece(1, 5), 0);
        Due.is("so that takes none", x.tiles(), 22);
    }

    /** Of 4 by 3: 2 by 2 has 6 at the right and 4 below; 3 by 2 has 3 at the right and 4 below. */
    private static void greaterOneOfTwo() {
        Due.is("6 at the right, 4 below", Due.restsOf(cornerOf4By3(2, 2)), " 23");
        Due.is("3 at the right, 4 below", Due.restsOf(cornerOf4By3(3, 2)), " 41");
        Due.is("3 at the right, 8 below", Due.restsOf(cornerOf4By3(3, 1)), " 42");
        Due.is("9 at the right, 8 below", Due.restsOf(cornerOf4By3(1, 1)), " 33");
        Due.is("6 at the right, 8 below", Due.restsOf(cornerOf4By3(2, 1)), " 42");
        Due.is("9 at the right, 4 below", Due.restsOf(cornerOf4By3(1, 2)), " 33");
    }

    private static void asHighOrWideAsTheWhole() {
        Due.is("at the right, none below", Due.restsOf(cornerOf4By3(3, 3)), " 13");
        Due.is("at the right of 1, none below", Due.restsOf(cornerOf4By3(1, 3)), " 33");
        Due.is("below, none at the right", Due.restsOf(cornerOf4By3(4, 2)), " 41");
        Due.is("below 1, none at the right", Due.restsOf(cornerOf4By3(4, 1)), " 42");
        Groutline x = Floors.planned(4, 4, 0, Groutline.STRAIGHT);
        x.door(8);
        Floors.bar(x, 1, 0, 3, 3);
        Floors.bar(x, 5, 0, 7, 3);
        Floors.bar(x, 4, 3, 4, 3);
        Due.is("1 by 3 of a rest of 3 by 4: at the right, as high as that rest", Due.restsOf(x), " 24");
        Floors.bar(x, 4, 1, 4, 3);
        Due.is("1 by 1 of a rest of 3 by 4: below, as wide as that rest", Due.restsOf(x), " 33");
    }

    private static void ofTwoAlikeTheFirst() {
        Groutline x = only(Floors.planned(3, 3, 0, Groutline.STRAIGHT), 3, 3);
        Due.is("1 by 1 of 3 by 3: 6 and 6, so the one at the right", Due.restsOf(x), " 23");
        x.pillar(4, 4, false);
        Due.is("2 by 2 of 3 by 3: 3 and 3, so the one at the right", Due.restsOf(x), " 13");
        Groutline y = only(Floors.planned(4, 2, 0, Groutline.STRAIGHT), 4, 4);
        y.pillar(5, 4, false);
        Due.is("2 by 1 of 4 by 2: 4 and 4, so the one at the right", Due.restsOf(y), " 22");
    }

    private static void restHasACell() {
        Due.is("all of 4 by 3", Due.restsOf(cornerOf4By3(4, 3)), "");
        Groutline x = Floors.planned(2, 2, 0, Groutline.STRAIGHT);
        x.door(1);
        Due.is("two cuts that need all", Due.restsOf(x), "");
        Groutline cell = only(Floors.planned(2, 1, 0, Groutline.STRAIGHT), 2, 4);
        Due.is("a rest of one cell", Due.restsOf(cell), " 11");
        cell.pillar(4, 4, false);
        Due.is("a cut that takes all of it", Due.restsOf(cell), "");
    }

    private static void promise8() {
        Due.sentence("Promise 8", "Returns how many new tiles are needed.", CutsBoundsTest::tilesFromNoneToTheMost);
    }

    private static void tilesFromNoneToTheMost() {
        Groutline x = Floors.allBarred();
        Due.is("none, with all barred", x.tiles(), 0);
        x.pillar(11, 7, false);
        Due.is("one, for one cell", x.tiles(), 1);
        x.pillar(0, 7, false);
        Due.is("one, for two cells of two tiles", x.tiles(), 1);
        x.pillar(1, 6, false);
        Due.is("two, when one of them needs all of a tile", x.tiles(), 2);
        Due.is("the most", Floors.planned(1, 1, 0, Groutline.STRAIGHT).tiles(), 94);
        Due.is("the least without pillars", Floors.planned(4, 4, 2, Groutline.BOND).tiles(), 2);
    }

    private static void promise9() {
        String rest = "Promise 9";
        Due.sentence(rest, "Returns a rest that is left when all pieces are cut.", CutsBoundsTest::restLeftAtTheEnd);
        Due.sentence(rest, "`place`: 0 for the oldest one", CutsBoundsTest::restPlace);
        Due.sentence(rest, "Returns 10 times how wide, and how high it is, together", CutsBoundsTest::restSize);
        Due.sentence(rest, "NONE if there are not so many.", CutsBoundsTest::restNone);
        Due.sentence(rest, "Throws `IndexOutOfBoundsException` if place is below 0", CutsBoundsTest::restThrowsBelow0);
    }

    private static void restLeftAtTheEnd() {
        Groutline x = Floors.planned(2, 1, 0, Groutline.STRAIGHT);
        x.pillar(2, 0, true);
        Due.is("a rest that is left", x.rest(0), 11);
        x.pillar(11, 7, true);
        Due.is("a rest that the last piece takes", x.rest(0), Groutline.NONE);
        x.pillar(2, 0, false);
        Due.is("a rest that the last piece leaves", x.rest(0), 11);
    }

    private static void restPlace() {
        Groutline x = Floors.planned(4, 4, 0, Groutline.STRAIGHT);
        x.door(8);
        Floors.bar(x, 0, 1, 3, 3);
        Floors.bar(x, 6, 0, 7, 3);
        Due.is("the oldest one", x.rest(0), 43);
        Due.is("the one behind it", x.rest(1), 24);
        Due.is("no third one", x.rest(2), Groutline.NONE);
        Floors.bar(x, 4, 7, 7, 7);
        Due.is("the oldest one when the one ahead of it is taken", x.rest(0), 24);
        Due.is("no second one", x.rest(1), Groutline.NONE);
    }

    private static void restSize() {
        Groutline small = only(Floors.planned(2, 1, 0, Groutline.STRAIGHT), 2, 4);
        Due.is("the least one", small.rest(0), 11);
        Groutline wide = only(Floors.planned(4, 4, 0, Groutline.STRAIGHT), 4, 4);
        Due.is("3 wide and 4 high", wide.rest(0), 34);
        wide.pillar(7, 4, false);
        Due.is("4 wide and 3 high", wide.rest(0), 43);
    }

    private static void restNone() {
        Groutline none = Floors.allBarred();
        Due.is("rest(0) of none", none.rest(0), Groutline.NONE);
        Groutline most = mostRests();
        Due.is("the first of 36", most.rest(0), 11);
        Due.is("the last of 36", most.rest(35), 11);
        for (int place : new int[] {36, 37, 95, 96, 97, 1000, Integer.MAX_VALUE - 1, Integer.MAX_VALUE}) {
            Due.is("rest(" + place + ") of 36", most.rest(place), Groutline.NONE);
            Due.is("rest(" + place + ") of one", new Groutline().rest(place), Groutline.NONE);
        }
        Due.is("36 tiles for 36 cuts", most.tiles(), 36);
    }

    private static void restThrowsBelow0() {
        for (int place : new int[] {-1, -2, -96, Integer.MIN_VALUE + 1, Integer.MIN_VALUE}) {
            Due.refused(Floors::changed, "rest(" + place + ")", Due.OUTSIDE, x -> x.rest(place));
            Due.refused(CutsBoundsTest::mostRests, "rest(" + place + ") of 36", Due.OUTSIDE, x -> x.rest(place));
            Due.refused(Floors::allBarred, "rest(" + place + ") of none", Due.OUTSIDE, x -> x.rest(place));
        }
    }

    /** Each tile of 1 by 3 needs 1 by 2, and leaves a cell that none can use. */
    private static Groutline mostRests() {
        Groutline x = Floors.planned(1, 3, 0, Groutline.STRAIGHT);
        Floors.bar(x, 2, 0, 11, 0);
        return Floors.bar(x, 0, 3, 11, 3);
    }

    /** All cells barred but one. */
    private static Groutline only(Groutline x, int column, int row) {
        Floors.bar(x, 0, 0, 11, 7);
        x.pillar(column, row, false);
        return x;
    }

    /** All cells barred but the left and upper ones of a tile of 4 by 3. */
    private static Groutline cornerOf4By3(int wide, int high) {
        Groutline x = only(Floors.planned(4, 3, 0, Groutline.STRAIGHT), 4, 3);
        for (int column = 4; column < 4 + wide; column++) {
            for (int row = 3; row < 3 + high; row++) {
                x.pillar(column, row, false);
            }
        }
        return x;
    }

    /** Tiles of 4 by 4: the first one needs 2 by 4 and leaves 2 by 4, a later one needs so much. */
    private static Groutline needing(int wide, int high) {
        Groutline x = only(Floors.planned(4, 4, 0, Groutline.STRAIGHT), 0, 0);
        x.door(10);
        for (int row = 0; row < 4; row++) {
            x.pillar(0, row, false);
            x.pillar(1, row, false);
        }
        for (int column = 4; column < 4 + wide; column++) {
            for (int row = 4; row < 4 + high; row++) {
                x.pillar(column, row, false);
            }
        }
        return x;
    }
}
