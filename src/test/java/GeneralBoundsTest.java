import java.util.List;

/** The sentences that hold for all calls: the 512 calls, and what is said of exceptions. */
public final class GeneralBoundsTest {
    private static final int MOST_CALLS = 512;

    private static final class Refused {
        final String call;
        final Class<? extends RuntimeException> due;
        final Due.Asked asked;

        Refused(String call, Class<? extends RuntimeException> due, Due.Asked asked) {
            this.call = call;
            this.due = due;
            this.asked = asked;
        }
    }

    public static void main(String[] args) {
        Due.sentence("What it is", "An object is used for at most 512 calls after it has been made",
                GeneralBoundsTest::atMost512Calls);
        Due.sentence("Terms", "A method that throws an exception changes nothing.",
                GeneralBoundsTest::aMethodThatThrowsChangesNothing);
        Due.sentence("Terms", "If several exceptions apply, the one that is documented first is thrown.",
                GeneralBoundsTest::theOneDocumentedFirst);
        Due.sentence("Terms", "IndexOutOfBoundsException is thrown where there is no such cell, piece, or strip;"
                + " IllegalArgumentException if another argument is out of range.", GeneralBoundsTest::whichExceptionIsThrown);
        Due.sentence("Terms", "`NONE = -1`: There is none.", GeneralBoundsTest::noneIsBelow0);
        Due.sentence("Terms", "`STRAIGHT = 0, BOND = 1`: Patterns.", GeneralBoundsTest::patternsAre0And1);
        Due.sentence("Terms", "`WHOLE = 0, CUT = 1, EDGE = 2`: Pieces.", GeneralBoundsTest::kindsAre0To2);
        Due.end();
    }

    private static void atMost512Calls() {
        Groutline waited = new Groutline();
        for (int call = 1; call <= MOST_CALLS; call++) {
            Due.is("pass(100), call " + call, waited.pass(100), 100 * call);
        }
        Groutline crates = new Groutline();
        for (int call = 1; call < MOST_CALLS; call += 2) {
            Due.is("crate, call " + call, crates.crate(call % 10, 1 + call % 100), 1);
            Due.is("fetch, call " + (call + 1), crates.fetch(call % 10), 1 + call % 100);
        }
        Groutline doors = Floors.planned(2, 1, 0, Groutline.STRAIGHT);
        for (int call = 2; call <= MOST_CALLS; call++) {
            Due.is("door, call " + call, doors.door(call % 11), call % 11 % 2 == 0 ? 47 : 48);
        }
        Groutline plans = new Groutline();
        for (int call = 1; call <= MOST_CALLS; call++) {
            Due.is("plan, call " + call, plans.plan(call % 4 + 1, 1, 0, 0), new int[] {94, 47, 32, 24}[call % 4]);
        }
        Groutline pillars = Floors.planned(1, 1, 0, Groutline.STRAIGHT);
        for (int call = 2; call <= MOST_CALLS; call++) {
            int cell = call % 96, times = (call - 2) / 96;
            Due.is("pillar, call " + call, pillars.pillar(cell % 12, cell / 12, times % 2 == 0), times % 2 == 1);
        }
        Groutline refused = new Groutline();
        for (int call = 1; call < MOST_CALLS; call++) {
            Due.outcome(() -> refused.lay(-1));
        }
        Due.is("lay(3), call 512", refused.lay(3), 2);
    }

    private static void aMethodThatThrowsChangesNothing() {
        for (Refused r : arguments()) {
            Due.refused(Groutline::new, r.call + " on a new floor", r.due, r.asked);
            Due.refused(Floors::changed, r.call + " on a changed floor", r.due, r.asked);
            Due.refused(Floors::changedAndLaid, r.call + " on a laid floor", r.due, r.asked);
            Due.refused(Floors::with20Crates, r.call + " with 20 crates", r.due, r.asked);
        }
        for (Refused r : states()) {
            Due.refused(GeneralBoundsTest::fullAndLaid, r.call + " on a floor full and laid", r.due, r.asked);
        }
        Due.alike("after all of them, one behind the other", () -> {
            Groutline x = fullAndLaid();
            for (Refused r : arguments()) {
                Due.outcome(() -> r.asked.of(x));
            }
            for (Refused r : states()) {
                Due.outcome(() -> r.asked.of(x));
            }
            return x;
        }, GeneralBoundsTest::fullAndLaid);
    }

    private static void theOneDocumentedFirst() {
        Due.refused(GeneralBoundsTest::fullAndLaid, "plan: argument ahead of state", Due.ARGUMENT,
                x -> x.plan(5, 1, 0, 0));
        Due.refused(GeneralBoundsTest::fullAndLaid, "pillar: cell ahead of state", Due.OUTSIDE,
                x -> x.pillar(12, 0, true));
        Due.refused(GeneralBoundsTest::fullAndLaid, "ofPiece: piece ahead of what", Due.OUTSIDE, x -> x.ofPiece(96, 6));
        Due.refused(GeneralBoundsTest::fullAndLaid, "ofPiece: the last piece, and what", Due.ARGUMENT,
                x -> x.ofPiece(x.piecesAnew() - 1, 6));
        Due.refused(GeneralBoundsTest::fullAndLaid, "ofPiece: behind the last piece, and what", Due.OUTSIDE,
                x -> x.ofPiece(x.piecesAnew(), 6));
        Due.refused(GeneralBoundsTest::fullAndLaid, "crate: floor ahead of 20", Due.ARGUMENT, x -> x.crate(10, 1));
        Due.refused(GeneralBoundsTest::fullAndLaid, "crate: many ahead of 20", Due.ARGUMENT, x -> x.crate(0, 101));
        Due.refused(GeneralBoundsTest::fullAndLaid, "lay: strip ahead of wet grout", Due.OUTSIDE, x -> x.lay(5));
    }

    private static void whichExceptionIsThrown() {
        for (Refused r : arguments()) {
            Due.is(r.call, Due.outcome(() -> r.asked.of(new Groutline())), "throws " + r.due.getSimpleName());
        }
        for (Refused r : states()) {
            Due.is(r.call, Due.outcome(() -> r.asked.of(fullAndLaid())), "throws " + r.due.getSimpleName());
        }
    }

    private static void noneIsBelow0() {
        Due.is("NONE", Groutline.NONE, -1);
        Due.is("the piece of a barred cell", new Groutline().pieceAt(0, 0), -1);
        Due.is("the source of a WHOLE", new Groutline().ofPiece(0, 5), -1);
        Due.is("a rest that is not there", new Groutline().rest(1), -1);
        Due.is("a crate that is not there", new Groutline().fetch(0), -1);
        Due.is("the hour of a strip that is not laid", new Groutline().dry(0), -1);
    }

    private static void patternsAre0And1() {
        Due.is("STRAIGHT", Groutline.STRAIGHT, 0);
        Due.is("BOND", Groutline.BOND, 1);
        Due.is("plan(4, 4, 0, 0)", new Groutline().plan(4, 4, 0, 0), 6);
        Due.is("plan(4, 4, 0, 1)", new Groutline().plan(4, 4, 0, 1), 7);
    }

    private static void kindsAre0To2() {
        Due.is("WHOLE", Groutline.WHOLE, 0);
        Due.is("CUT", Groutline.CUT, 1);
        Due.is("EDGE", Groutline.EDGE, 2);
        Due.is("the kind of a whole tile", new Groutline().ofPiece(0, 0), 0);
        Due.is("the kind of a cut", new Groutline().ofPiece(5, 0), 1);
        Due.is("the kind of a cell of the border", Floors.planned(1, 1, 1, 0).ofPiece(0, 0), 2);
    }

    /** A stack of 20 crates, and grout that is wet all over but for the last strip, which is not laid. */
    private static Groutline fullAndLaid() {
        Groutline x = Floors.with20Crates();
        x.plan(3, 2, 1, Groutline.BOND);
        for (int strip = 3; strip >= 0; strip--) {
            x.lay(strip);
        }
        return x;
    }

    /** What is refused on each floor. */
    private static List<Refused> arguments() {
        return List.of(
                new Refused("plan(0, 1, 0, 0)", Due.ARGUMENT, x -> x.plan(0, 1, 0, 0)),
                new Refused("plan(1, 5, 0, 0)", Due.ARGUMENT, x -> x.plan(1, 5, 0, 0)),
                new Refused("plan(1, 1, 3, 0)", Due.ARGUMENT, x -> x.plan(1, 1, 3, 0)),
                new Refused("plan(1, 1, 0, 2)", Due.ARGUMENT, x -> x.plan(1, 1, 0, 2)),
                new Refused("pillar(12, 3, true)", Due.OUTSIDE, x -> x.pillar(12, 3, true)),
                new Refused("pillar(3, 8, true)", Due.OUTSIDE, x -> x.pillar(3, 8, true)),
                new Refused("door(11)", Due.OUTSIDE, x -> x.door(11)),
                new Refused("door(-1)", Due.OUTSIDE, x -> x.door(-1)),
                new Refused("ofPiece(-1, 0)", Due.OUTSIDE, x -> x.ofPiece(-1, 0)),
                new Refused("ofPiece(96, 0)", Due.OUTSIDE, x -> x.ofPiece(96, 0)),
                new Refused("ofPiece(0, -1)", Due.ARGUMENT, x -> x.ofPiece(0, -1)),
                new Refused("ofPiece(0, 6)", Due.ARGUMENT, x -> x.ofPiece(0, 6)),
                new Refused("pieceAt(-1, 0)", Due.OUTSIDE, x -> x.pieceAt(-1, 0)),
                new Refused("pieceAt(0, 8)", Due.OUTSIDE, x -> x.pieceAt(0, 8)),
                new Refused("rest(-1)", Due.OUTSIDE, x -> x.rest(-1)),
                new Refused("crate(10, 1)", Due.ARGUMENT, x -> x.crate(10, 1)),
                new Refused("crate(0, 0)", Due.ARGUMENT, x -> x.crate(0, 0)),
                new Refused("fetch(-1)", Due.ARGUMENT, x -> x.fetch(-1)),
                new Refused("fetch(10)", Due.ARGUMENT, x -> x.fetch(10)),
                new Refused("grout(-1)", Due.ARGUMENT, x -> x.grout(-1)),
                new Refused("grout(49)", Due.ARGUMENT, x -> x.grout(49)),
                new Refused("lay(-1)", Due.OUTSIDE, x -> x.lay(-1)),
                new Refused("lay(8)", Due.OUTSIDE, x -> x.lay(8)),
                new Refused("dry(-1)", Due.OUTSIDE, x -> x.dry(-1)),
                new Refused("dry(8)", Due.OUTSIDE, x -> x.dry(8)),
                new Refused("pass(0)", Due.ARGUMENT, x -> x.pass(0)),
                new Refused("pass(101)", Due.ARGUMENT, x -> x.pass(101)));
    }

    /** What is refused on the floor that is full and laid. */
    private static List<Refused> states() {
        return List.of(
                new Refused("plan(1, 1, 0, 0)", Due.STATE, x -> x.plan(1, 1, 0, 0)),
                new Refused("pillar(5, 5, true)", Due.STATE, x -> x.pillar(5, 5, true)),
                new Refused("crate(0, 1)", Due.STATE, x -> x.crate(0, 1)),
                new Refused("lay(0)", Due.STATE, x -> x.lay(0)),
                new Refused("lay(3)", Due.STATE, x -> x.lay(3)),
                new Refused("lay(4)", Due.STATE, x -> x.lay(4)));
    }
}
