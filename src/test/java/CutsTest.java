/** Promises 8 and 9: tiles, rest. */
public final class CutsTest {
    public static void main(String[] args) {
        promise8Tiles();
        promise8LeastRest();
        promise8OldestOfAlikeRests();
        promise8NoTurning();
        promise8LaidStripsAreCutAnewWithTheDoor();
        promise9RightAndBelow();
        promise9RestOfARest();
        Due.end();
    }

    private static void promise8Tiles() {
        Groutline x = new Groutline();
        Due.is("tiles() of 2 by 2", x.tiles(), 24);
        x.plan(1, 1, 2, Groutline.STRAIGHT);
        Due.is("an edge takes none", x.tiles(), 32);
        x.plan(4, 1, 0, Groutline.BOND);
        Due.is("two halves of each second course from one", x.tiles(), 24);
        x.plan(4, 2, 0, Groutline.STRAIGHT);
        x.pillar(0, 3, true);
        Due.is("a cut takes a whole tile", x.tiles(), 12);
        x.plan(2, 2, 2, Groutline.STRAIGHT);
        Due.is("a tile with 3 cells takes a tile", x.tiles(), 8);
    }

    /** An older rest of 4 by 3 and a younger one of 2 by 4: a cell comes from the one with less cells. */
    private static void promise8LeastRest() {
        Groutline x = new Groutline();
        x.plan(4, 4, 0, Groutline.STRAIGHT);
        x.door(8);
        bar(x, 0, 1, 3, 3);
        Due.is("a row of 4 leaves 4 by 3", Due.restsOf(x), " 43");
        bar(x, 6, 0, 7, 3);
        Due.is("2 by 4 does not come from 4 by 3", Due.restsOf(x), " 43 24");
        bar(x, 1, 4, 3, 7);
        bar(x, 0, 5, 0, 7);
        Due.is("a cell takes the 2 by 4, not the older 4 by 3", Due.restsOf(x), " 43 23");
        Due.is("its source", x.ofPiece(x.pieceAt(0, 4), 5), x.pieceAt(4, 0));
        Due.is("tiles()", x.tiles(), 5);
        bar(x, 4, 7, 7, 7);
        Due.is("4 by 3 takes the 4 by 3, and leaves nothing", Due.restsOf(x), " 23");
        Due.is("tiles() with one from a rest more", x.tiles(), 4);
    }

    private static void promise8OldestOfAlikeRests() {
        Groutline x = new Groutline();
        x.plan(4, 1, 0, Groutline.STRAIGHT);
        bar(x, 0, 0, 3, 0);
        bar(x, 3, 2, 3, 3);
        Due.is("two rests alike", Due.restsOf(x), " 11 11");
        bar(x, 9, 5, 11, 5);
        Due.is("one of them serves", Due.restsOf(x), " 11");
        Due.is("the oldest one", x.ofPiece(x.pieceAt(8, 5), 5), x.pieceAt(0, 2));
        bar(x, 5, 6, 7, 6);
        Due.is("the other one serves too", Due.restsOf(x), "");
        Due.is("the other source", x.ofPiece(x.pieceAt(4, 6), 5), x.pieceAt(0, 3));
        bar(x, 1, 7, 3, 7);
        Due.is("a third cell takes a new tile", x.ofPiece(x.pieceAt(0, 7), 5), Groutline.NONE);
        Due.is("and leaves three", Due.restsOf(x), " 31");
    }

    private static void promise8NoTurning() {
        Groutline x = new Groutline();
        x.plan(3, 2, 0, Groutline.STRAIGHT);
        x.door(0);
        x.pillar(2, 0, true);
        Due.is("a rest of 3 by 1", Due.restsOf(x), " 31");
        bar(x, 4, 2, 5, 3);
        Due.is("1 by 2 does not come from 3 by 1", x.ofPiece(x.pieceAt(3, 2), 5), Groutline.NONE);
        Due.is("so there are two rests", Due.restsOf(x), " 31 22");
    }

    private static void promise8LaidStripsAreCutAnewWithTheDoor() {
        Groutline x = new Groutline();
        x.plan(2, 1, 0, Groutline.STRAIGHT);
        x.pillar(11, 7, true);
        x.lay(7);
        Due.is("tiles(), the door on one tile", x.tiles(), 47);
        x.door(1);
        Due.is("tiles(), the door on two halves", x.tiles(), 47);
        Due.is("the laid cut comes from the second half's rest no more", x.ofPiece(47, 5), Groutline.NONE);
        Due.is("the second half comes from the first", x.ofPiece(1, 5), 0);
    }

    private static void promise9RightAndBelow() {
        Groutline x = new Groutline();
        Due.is("below the door: 2 by 1", x.rest(0), 21);
        Due.is("no second one", x.rest(1), Groutline.NONE);
        Due.is("rest(95)", x.rest(95), Groutline.NONE);
        Due.is("rest(96)", x.rest(96), Groutline.NONE);
        Due.is("rest(greatest int)", x.rest(Integer.MAX_VALUE), Groutline.NONE);
        x.pillar(0, 1, true);
        Due.is("one cell of 2 by 2: right and below alike, so right", x.rest(0), 12);
        x.pillar(0, 1, false);
        x.plan(3, 2, 0, Groutline.STRAIGHT);
        Due.is("3 by 2 but for 2 by 1: the rectangle is all of it", Due.restsOf(x), "");
        x.pillar(2, 0, true);
        Due.is("2 by 1 of 3 by 2: below, as wide as the whole", Due.restsOf(x), " 31");
        x.plan(4, 2, 0, Groutline.STRAIGHT);
        x.pillar(2, 0, false);
        Due.is("4 by 2 but for the door: nothing is left", Due.restsOf(x), "");
        bar(x, 9, 6, 11, 7);
        Due.is("1 by 2 of 4 by 2: right, as high as the whole", Due.restsOf(x), " 32");
        x.pillar(8, 7, true);
        Due.is("1 by 1 of 4 by 2: right, as high as the whole", Due.restsOf(x), " 32");
    }

    private static void promise9RestOfARest() {
        Groutline x = new Groutline();
        x.plan(4, 4, 2, Groutline.STRAIGHT);
        bar(x, 3, 2, 5, 5);
        bar(x, 7, 2, 9, 5);
        Due.is("1 by 4 leaves 3 by 4, 1 by 4 of it 2 by 4", Due.restsOf(x), " 24");
        Due.is("one tile for both", x.tiles(), 1);
        x.pillar(6, 5, true);
        x.pillar(6, 4, true);
        Due.is("1 by 2 of 3 by 4: right 8, below 6", Due.restsOf(x), " 24");
        x.pillar(6, 3, true);
        Due.is("1 by 1 of 3 by 4: right 8, below 9", Due.restsOf(x), " 33");
    }

    private static void bar(Groutline x, int left, int top, int right, int bottom) {
        for (int column = left; column <= right; column++) {
            for (int row = top; row <= bottom; row++) {
                x.pillar(column, row, true);
            }
        }
    }
}
