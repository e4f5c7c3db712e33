/** Each sentence on LAYING, and of the promises 13 to 17, that names a boundary case. */
public final class LayingBoundsTest {
    private static final int[] FAR = {Integer.MIN_VALUE, Integer.MIN_VALUE + 1, -1000, 1000, Integer.MAX_VALUE};

    public static void main(String[] args) {
        terms();
        promise13();
        promise14();
        promise15();
        promise16();
        promise17();
        Due.end();
    }

    private static void terms() {
        String terms = "Terms";
        Due.sentence(terms, "Hours are counted from 0.", LayingBoundsTest::hoursFrom0);
        Due.sentence(terms, "those above and below of it count by themselves, those at the sides with the course whose"
                + " rows they are in, also if that is cut off by the border below", LayingBoundsTest::rowsOfTheBorder);
        Due.sentence(terms, "strips are numbered from the top", LayingBoundsTest::numberedFromTheTop);
        Due.sentence(terms, "A strip is laid by a cart that comes from the top: it drives over all strips ahead of it.",
                LayingBoundsTest::drivesOverAllAhead);
        Due.sentence(terms, "It cannot be laid if it was", LayingBoundsTest::notLaidTwice);
        Due.sentence(terms, "or if one ahead of it was laid, and is not dry", LayingBoundsTest::notOverWetGrout);
        Due.sentence(terms, "it is dry as many hours behind its end as the grout needs, 6 at first",
                LayingBoundsTest::dryAsManyHoursBehindItsEnd);
        Due.sentence(terms, "To lay it takes an hour for each 4 of its pieces, or a part of them",
                LayingBoundsTest::anHourForEach4);
        Due.sentence(terms, "and the time is so much later then; it is laid from its end on",
                LayingBoundsTest::soMuchLater);
        Due.sentence(terms, "A strip that is laid stays as it was: when the door moves, or the plan changes otherwise,"
                + " cells that were barred or not when it was laid stay so for it.", LayingBoundsTest::staysAsItWas);
        Due.sentence(terms, "While some strip is laid, only the door can be changed, and the grout.",
                LayingBoundsTest::onlyDoorAndGrout);
    }

    private static void hoursFrom0() {
        Due.is("the first hour to wait for", new Groutline().pass(1), 1);
        Due.is("a strip without pieces ends at", Floors.allBarred().lay(0), 0);
        Groutline x = new Groutline();
        x.grout(0);
        x.lay(3);
        Due.is("dry from its end on", x.dry(3), 2);
    }

    private static void rowsOfTheBorder() {
        Groutline x = Floors.planned(4, 4, 0, Groutline.STRAIGHT);
        Due.is("no border, its strips", x.strips(), 2);
        x.plan(4, 4, 1, Groutline.STRAIGHT);
        Due.is("a border of 1: a course of 4 rows, one cut off to 2", stripsOfRows(x), " 0 1 1 1 1 2 2 3");
        x.plan(4, 3, 2, Groutline.STRAIGHT);
        Due.is("a border of 2: a course of 3 rows, one cut off to 1", stripsOfRows(x), " 0 1 2 2 2 3 4 5");
        x.plan(4, 4, 2, Groutline.STRAIGHT);
        Due.is("a border of 2: a course of 4 rows, none cut off", stripsOfRows(x), " 0 1 2 2 2 2 3 4");
        x.plan(4, 1, 2, Groutline.STRAIGHT);
        Due.is("a border of 2: courses of a row", stripsOfRows(x), " 0 1 2 3 4 5 6 7");
        x.plan(4, 3, 0, Groutline.STRAIGHT);
        Due.is("no border: cut off by the end of the floor", stripsOfRows(x), " 0 0 0 1 1 1 2 2");
    }

    private static void numberedFromTheTop() {
        Groutline x = Floors.planned(1, 1, 0, Groutline.STRAIGHT);
        Floors.bar(x, 1, 0, 11, 0);
        Floors.bar(x, 5, 7, 11, 7);
        Due.is("the strip 0 is the top, without pieces", x.lay(0), 0);
        x.pass(6);
        Due.is("the strip 7 is the bottom, of 5 pieces", x.lay(7), 6 + 2);
    }

    private static void drivesOverAllAhead() {
        for (int ahead = 0; ahead < 7; ahead++) {
            int wet = ahead;
            Due.refused(() -> laid(wet), "lay(7), the strip " + wet + " wet", Due.STATE, x -> x.lay(7));
        }
        for (int behind = 1; behind <= 7; behind++) {
            Due.is("lay(0), the strip " + behind + " wet", laid(behind).lay(0), 6);
            Due.is("lay(" + (behind - 1) + "), the strip behind wet", laid(behind).lay(behind - 1), 6);
        }
        Due.is("lay(7), none laid", Floors.planned(1, 1, 0, Groutline.STRAIGHT).lay(7), 3);
    }

    private static void notLaidTwice() {
        for (int strip = 0; strip <= 7; strip++) {
            int twice = strip;
            Due.refused(() -> laid(twice), "lay(" + twice + ") again at once", Due.STATE, x -> x.lay(twice));
            Due.refused(() -> waited(laid(twice), 5), "lay(" + twice + ") ahead of its being dry", Due.STATE,
                    x -> x.lay(twice));
            Due.refused(() -> waited(laid(twice), 6), "lay(" + twice + ") when it is dry", Due.STATE, x -> x.lay(twice));
            Due.refused(() -> waited(laid(twice), 100), "lay(" + twice + ") long after", Due.STATE, x -> x.lay(twice));
        }
        Due.refused(() -> laidOf(Floors.allBarred(), 3), "a strip without pieces again", Due.STATE, x -> x.lay(3));
        Due.refused(() -> laidWithGrout(0), "lay(0) again, dry at its end", Due.STATE, x -> x.lay(0));
    }

    private static void notOverWetGrout() {
        Groutline x = Floors.planned(1, 1, 0, Groutline.STRAIGHT);
        Due.is("one ahead that is not laid", x.lay(4), 3);
        Due.is("one ahead that is not laid, one behind that is wet", x.lay(2), 6);
        x.pass(3);
        Due.is("the hour at which the strip 4 is dry", x.dry(4), 9);
        Due.is("the strip 2 is not yet", x.dry(2), 12);
        Due.is("lay(5) over one dry and one wet", Due.outcome(() -> x.lay(5)), "throws IllegalStateException");
        Due.is("lay(3) over the wet one", Due.outcome(() -> x.lay(3)), "throws IllegalStateException");
        Due.is("lay(1) over none", x.lay(1), 12);
        Due.is("lay(3) over one dry and one wet", Due.outcome(() -> x.lay(3)), "throws IllegalStateException");
        x.pass(6);
        Due.is("lay(3) over dry ones", x.lay(3), 21);
    }

    private static void dryAsManyHoursBehindItsEnd() {
        Due.is("6 at first", laid(0).dry(0), 3 + 6);
        for (int grout : new int[] {1, 2, 6, 47, 48}) {
            Due.is("dry(0) with grout(" + grout + ")", laidWithGrout(grout).dry(0), 3 + grout);
            Due.refused(() -> laidWithGrout(grout), "lay(1) at its end, grout(" + grout + ")", Due.STATE, x -> x.lay(1));
            Due.is("lay(1) when it is dry, grout(" + grout + ")", waited(laidWithGrout(grout), grout).lay(1), 6 + grout);
            if (grout > 1) {
                Due.refused(() -> waited(laidWithGrout(grout), grout - 1), "lay(1) an hour ahead, grout(" + grout + ")",
                        Due.STATE, x -> x.lay(1));
            }
        }
        Due.is("dry(0) with grout(0)", laidWithGrout(0).dry(0), 3);
        Due.is("lay(1) at its end, grout(0)", laidWithGrout(0).lay(1), 6);
    }

    private static void anHourForEach4() {
        int[] hours = {0, 1, 1, 1, 1, 2, 2, 2, 2, 3, 3, 3, 3};
        for (int count = 0; count <= 12; count++) {
            Groutline x = Floors.planned(1, 1, 0, Groutline.STRAIGHT);
            Floors.bar(x, count, 7, 11, 7);
            Due.is("hours for " + count + " pieces", x.lay(7), hours[count]);
        }
        for (int count = 0; count <= 10; count++) {
            Groutline x = Floors.planned(1, 1, 0, Groutline.STRAIGHT);
            Floors.bar(x, 2 + count, 0, 11, 0);
            Due.is("hours for " + count + " pieces beside the door", x.lay(0), hours[count]);
        }
        int[] moreHours = {4, 4, 4, 4, 5, 5, 5, 5, 6, 6, 6, 6};
        for (int count = 13; count <= 24; count++) {
            Due.is("hours for " + count + " pieces, of 24 at most", courseOf(count).lay(2), moreHours[count - 13]);
        }
        Due.is("EDGEs count too", Floors.planned(4, 4, 1, Groutline.STRAIGHT).lay(3), 3);
    }

    private static void soMuchLater() {
        Groutline x = Floors.planned(1, 1, 0, Groutline.STRAIGHT);
        Due.is("the first end", x.lay(7), 3);
        Due.is("the next one", x.lay(6), 6);
        Due.is("an hour later", x.pass(1), 7);
        Due.is("dry counts from the end", x.dry(6), 12);
        Due.is("laid from its end on", Due.outcome(() -> x.plan(1, 1, 0, 0)), "throws IllegalStateException");
        Groutline none = Floors.allBarred();
        none.pass(5);
        Due.is("a strip without pieces takes none", none.lay(0), 5);
        Due.is("so it is no later", none.pass(1), 6);
    }

    private static void staysAsItWas() {
        Due.is("the door's cell, the strip laid", moved(0, 6).pieceAt(0, 0), Groutline.NONE);
        Due.is("the door's second cell", moved(0, 6).pieceAt(1, 0), Groutline.NONE);
        Due.is("a cell that the door comes to", moved(0, 6).pieceAt(6, 0), 4);
        Due.is("its second cell", moved(0, 6).pieceAt(7, 0), 5);
        Due.is("door(10) returns as many", moved(0, 6).door(10), 94);
        Due.is("the door's cell, only the strip 1 laid", moved(1, 6).pieceAt(0, 0), 0);
        Due.is("a cell that the door comes to, only the strip 1 laid", moved(1, 6).pieceAt(6, 0), Groutline.NONE);
        Due.alike("the door moved, the top laid", () -> moved(0, 6), () -> moved(0, 0));
        Due.alike("the door moved and back, the bottom laid", () -> doorBack(7), () -> moved(7, 0));
        Groutline x = Floors.planned(4, 4, 0, Groutline.STRAIGHT);
        x.lay(0);
        x.door(10);
        Due.is("all rows of the strip stay", Due.pieceOf(x, 0), " 1 2 0 14 0 -1");
        Due.is("its WHOLE stays one", Due.pieceOf(x, 2), " 0 8 0 16 0 -1");
        Groutline late = Floors.planned(2, 1, 0, Groutline.STRAIGHT);
        late.lay(7);
        Due.is("the door moved, the top not laid", late.door(3), 48);
        late.lay(0);
        Due.is("the door moved, the top laid as it was then", late.door(0), 48);
        Due.is("as it was then", late.pieceAt(3, 0), Groutline.NONE);
    }

    private static void onlyDoorAndGrout() {
        Due.refused(() -> laid(7), "plan", Due.STATE, x -> x.plan(1, 1, 0, 0));
        Due.refused(() -> laid(7), "pillar", Due.STATE, x -> x.pillar(0, 0, false));
        Groutline x = laid(7);
        Due.is("the door", x.door(10), 94);
        Due.is("it has moved", x.pieceAt(11, 0), Groutline.NONE);
        Due.is("the grout", x.grout(48), 6);
        Due.is("it has changed", x.grout(0), 48);
    }

    private static void promise13() {
        String grout = "Promise 13";
        Due.sentence(grout, "Sets how long grout dries, for strips that are laid from now on.",
                LayingBoundsTest::groutFromNowOn);
        Due.sentence(grout, "`hours`: 0 to 48", LayingBoundsTest::groutHours);
        Due.sentence(grout, "Returns the hours before.", LayingBoundsTest::groutReturnsTheHoursBefore);
        Due.sentence(grout, "Throws `IllegalArgumentException` if hours is out of range",
                LayingBoundsTest::groutThrowsForHours);
    }

    private static void groutFromNowOn() {
        Groutline x = laid(7);
        x.grout(0);
        Due.is("a strip that was laid before", x.dry(7), 9);
        x.lay(6);
        Due.is("a strip laid from now on", x.dry(6), 6);
        x.grout(48);
        Due.is("that one stays too", x.dry(6), 6);
        x.lay(5);
        Due.is("the next one", x.dry(5), 9 + 48);
        Groutline wet = laid(0);
        wet.grout(0);
        Due.is("a wet strip is not dry by it", Due.outcome(() -> wet.lay(1)), "throws IllegalStateException");
        Groutline dry = laidWithGrout(0);
        dry.grout(48);
        Due.is("a dry strip is not wet by it", dry.lay(1), 6);
    }

    private static void groutHours() {
        for (int hours = 0; hours <= 48; hours++) {
            Due.is("dry with grout(" + hours + ")", laidWithGrout(hours).dry(0), 3 + hours);
        }
    }

    private static void groutReturnsTheHoursBefore() {
        Groutline x = new Groutline();
        Due.is("at first", x.grout(0), 6);
        Due.is("behind the least", x.grout(48), 0);
        Due.is("behind the most", x.grout(48), 48);
        Due.is("behind the same", x.grout(6), 48);
    }

    private static void groutThrowsForHours() {
        for (int hours : new int[] {-1, 49}) {
            refusesGrout(hours);
        }
        for (int hours : FAR) {
            refusesGrout(hours);
        }
    }

    private static void promise14() {
        String lay = "Promise 14";
        Due.sentence(lay, "`strip`: its number", LayingBoundsTest::layStrip);
        Due.sentence(lay, "Returns the hour at its end.", LayingBoundsTest::layReturnsItsEnd);
        Due.sentence(lay, "Throws `IndexOutOfBoundsException` if there is no such strip",
                LayingBoundsTest::layThrowsWithoutAStrip);
        Due.sentence(lay, "Throws `IllegalStateException` if it cannot be laid", LayingBoundsTest::layThrowsIfItCannotBe);
    }

    private static void layStrip() {
        for (int high = 1; high <= 4; high++) {
            for (int border = 0; border <= 2; border++) {
                Groutline x = Floors.planned(4, high, border, Groutline.STRAIGHT);
                for (int strip = x.strips() - 1; strip >= 0; strip--) {
                    int laid = strip;
                    Due.is("high " + high + ", border " + border + ", strip " + strip + " is not laid", x.dry(strip),
                            Groutline.NONE);
                    int end = x.lay(laid);
                    Due.is("it is laid", x.dry(strip), end + 6);
                }
            }
        }
    }

    private static void layReturnsItsEnd() {
        Groutline x = new Groutline();
        x.pass(100);
        Due.is("two hours behind its begin", x.lay(3), 102);
        Due.is("the hour is that", x.pass(1), 103);
        Groutline none = Floors.allBarred();
        Due.is("at its begin, without pieces", none.lay(3), 0);
        Due.is("the next at the same hour", none.lay(2), 0);
    }

    private static void layThrowsWithoutAStrip() {
        refusesStrip(() -> Floors.planned(1, 4, 0, Groutline.STRAIGHT), 2);
        refusesStrip(() -> Floors.planned(1, 3, 0, Groutline.STRAIGHT), 3);
        refusesStrip(Groutline::new, 4);
        refusesStrip(() -> Floors.planned(1, 4, 2, Groutline.STRAIGHT), 5);
        refusesStrip(() -> Floors.planned(1, 1, 0, Groutline.STRAIGHT), 8);
        refusesStrip(() -> Floors.planned(1, 1, 2, Groutline.STRAIGHT), 8);
        refusesStrip(Groutline::new, -1);
        refusesStrip(Floors::changedAndLaid, -1);
        refusesStrip(Floors::changedAndLaid, 5);
        refusesStrip(() -> laid(0), 8);
        for (int far : FAR) {
            refusesStrip(Groutline::new, far);
            refusesStrip(Floors::changedAndLaid, far);
        }
    }

    private static void layThrowsIfItCannotBe() {
        Due.refused(Floors::changedAndLaid, "lay(3), laid", Due.STATE, x -> x.lay(3));
        Due.refused(Floors::changedAndLaid, "lay(1), laid", Due.STATE, x -> x.lay(1));
        Due.refused(Floors::changedAndLaid, "lay(2), the strip 1 wet", Due.STATE, x -> x.lay(2));
        Due.refused(Floors::changedAndLaid, "lay(4), the strips 1 and 3 wet", Due.STATE, x -> x.lay(4));
        Due.is("lay(0) can be", Due.outcome(() -> Floors.changedAndLaid().lay(0)).startsWith("throws"), false);
    }

    private static void promise15() {
        String dry = "Promise 15";
        Due.sentence(dry, "`strip`: its number", LayingBoundsTest::dryStrip);
        Due.sentence(dry, "Returns the hour; NONE if it is not laid.", LayingBoundsTest::dryReturnsNoneIfNotLaid);
        Due.sentence(dry, "Throws `IndexOutOfBoundsException` if there is no such strip",
                LayingBoundsTest::dryThrowsWithoutAStrip);
    }

    private static void dryStrip() {
        Due.is("the first strip", laid(0).dry(0), 9);
        Due.is("the last strip", laid(7).dry(7), 9);
        Due.is("the strip behind one that is laid", laid(0).dry(1), Groutline.NONE);
        Due.is("the strip ahead of one that is laid", laid(7).dry(6), Groutline.NONE);
    }

    private static void dryReturnsNoneIfNotLaid() {
        for (int strip = 0; strip <= 3; strip++) {
            Due.is("dry(" + strip + ") of a new floor", new Groutline().dry(strip), Groutline.NONE);
        }
        Due.is("dry at the hour 0", drySoon(), 0);
        Groutline refused = laid(0);
        Due.outcome(() -> refused.lay(1));
        Due.is("a strip that was refused", refused.dry(1), Groutline.NONE);
        Groutline long0 = waited(laid(0), 100);
        Due.is("the hour stays when it is long past", long0.dry(0), 9);
    }

    private static int drySoon() {
        Groutline x = Floors.allBarred();
        x.grout(0);
        x.lay(0);
        return x.dry(0);
    }

    private static void dryThrowsWithoutAStrip() {
        refusesDry(() -> Floors.planned(1, 4, 0, Groutline.STRAIGHT), 2);
        refusesDry(Groutline::new, 4);
        refusesDry(() -> Floors.planned(1, 4, 2, Groutline.STRAIGHT), 5);
        refusesDry(() -> Floors.planned(1, 1, 0, Groutline.STRAIGHT), 8);
        refusesDry(Groutline::new, -1);
        refusesDry(Floors::changedAndLaid, -1);
        refusesDry(Floors::changedAndLaid, 5);
        for (int far : FAR) {
            refusesDry(Floors::changedAndLaid, far);
        }
    }

    private static void promise16() {
        Due.sentence("Promise 16", "Returns how many strips there are.", LayingBoundsTest::stripsFromTheLeastToTheMost);
    }

    private static void stripsFromTheLeastToTheMost() {
        int[][] due = {{8, 4, 3, 2}, {8, 5, 4, 4}, {8, 6, 6, 5}};
        for (int border = 0; border <= 2; border++) {
            for (int high = 1; high <= 4; high++) {
                for (int pattern = 0; pattern <= 1; pattern++) {
                    Due.is("border " + border + ", high " + high, Floors.planned(4, high, border, pattern).strips(),
                            due[border][high - 1]);
                }
            }
        }
        Due.is("with all barred", Floors.allBarred().strips(), 4);
        Due.is("with one laid", laid(3).strips(), 8);
    }

    private static void promise17() {
        String pass = "Promise 17";
        Due.sentence(pass, "`hours`: 1 to 100", LayingBoundsTest::passHours);
        Due.sentence(pass, "Returns the hour.", LayingBoundsTest::passReturnsTheHour);
        Due.sentence(pass, "Throws `IllegalArgumentException` if hours is out of range",
                LayingBoundsTest::passThrowsForHours);
    }

    private static void passHours() {
        for (int hours = 1; hours <= 100; hours++) {
            Due.is("pass(" + hours + ")", new Groutline().pass(hours), hours);
        }
    }

    private static void passReturnsTheHour() {
        Groutline x = new Groutline();
        Due.is("the least at first", x.pass(1), 1);
        Due.is("the most behind it", x.pass(100), 101);
        x.lay(3);
        Due.is("behind a strip of two hours", x.pass(1), 104);
    }

    private static void passThrowsForHours() {
        for (int hours : new int[] {0, -1, 101}) {
            refusesPass(hours);
        }
        for (int hours : FAR) {
            refusesPass(hours);
        }
    }

    /** Tiles of one cell, so eight strips; this one is laid, and takes 3 hours. */
    private static Groutline laid(int strip) {
        Groutline x = Floors.planned(1, 1, 0, Groutline.STRAIGHT);
        x.lay(strip);
        return x;
    }

    private static Groutline laidOf(Groutline x, int strip) {
        x.lay(strip);
        return x;
    }

    private static Groutline laidWithGrout(int hours) {
        Groutline x = Floors.planned(1, 1, 0, Groutline.STRAIGHT);
        x.grout(hours);
        return laidOf(x, 0);
    }

    private static Groutline waited(Groutline x, int hours) {
        if (hours > 0) {
            x.pass(hours);
        }
        return x;
    }

    private static Groutline moved(int strip, int column) {
        Groutline x = laid(strip);
        x.door(column);
        return x;
    }

    private static Groutline doorBack(int strip) {
        Groutline x = moved(strip, 6);
        x.door(0);
        return x;
    }

    /** A border of 2 and a course of 4 rows, so at most 24 pieces; there are so many, as EDGEs are barred. */
    private static Groutline courseOf(int count) {
        Groutline x = Floors.planned(1, 4, 2, Groutline.STRAIGHT);
        int[] sides = {0, 1, 10, 11};
        for (int n = 0; n < 24 - count; n++) {
            x.pillar(sides[n % 4], 2 + n / 4, true);
        }
        return x;
    }

    private static String stripsOfRows(Groutline x) {
        StringBuilder strips = new StringBuilder();
        x.door(5);
        for (int row = 0; row < 8; row++) {
            strips.append(' ').append(x.ofPiece(x.pieceAt(0, row), 4));
            Due.is("both sides of row " + row, x.ofPiece(x.pieceAt(11, row), 4), x.ofPiece(x.pieceAt(0, row), 4));
        }
        return strips.toString();
    }

    private static void refusesGrout(int hours) {
        Due.refused(Floors::changed, "grout(" + hours + ")", Due.ARGUMENT, x -> x.grout(hours));
        Due.refused(Floors::changedAndLaid, "grout(" + hours + ") with strips laid", Due.ARGUMENT, x -> x.grout(hours));
    }

    private static void refusesStrip(Due.Made made, int strip) {
        Due.refused(made, "lay(" + strip + ")", Due.OUTSIDE, x -> x.lay(strip));
    }

    private static void refusesDry(Due.Made made, int strip) {
        Due.refused(made, "dry(" + strip + ")", Due.OUTSIDE, x -> x.dry(strip));
    }

    private static void refusesPass(int hours) {
        Due.refused(Floors::changed, "pass(" + hours + ")", Due.ARGUMENT, x -> x.pass(hours));
        Due.refused(Floors::changedAndLaid, "pass(" + hours + ") with strips laid", Due.ARGUMENT, x -> x.pass(hours));
    }
}
