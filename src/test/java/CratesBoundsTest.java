/** Each sentence on CRATES, and of the promises 10 to 12, that names a boundary case. */
public final class CratesBoundsTest {
    private static final int[] FAR = {Integer.MIN_VALUE, Integer.MIN_VALUE + 1, -100, 1000, Integer.MAX_VALUE};

    public static void main(String[] args) {
        terms();
        promise10();
        promise11();
        promise12();
        Due.end();
    }

    private static void terms() {
        String terms = "Terms";
        Due.sentence(terms, "Crates stand in a stack, at most 20, each with a floor, 0 to 9, and so many tiles.",
                CratesBoundsTest::atMost20);
        Due.sentence(terms, "To fetch for a floor takes the topmost crate of it", CratesBoundsTest::takesTheTopmost);
        Due.sentence(terms, "all that stand on that are set aside and put back in their order",
                CratesBoundsTest::putBackInTheirOrder);
        Due.sentence(terms, "each such move counting, so two for each of these", CratesBoundsTest::twoMovesForEach);
    }

    private static void atMost20() {
        Groutline x = Floors.with20Crates();
        Due.is("the 21st", Due.outcome(() -> x.crate(0, 1)), "throws IllegalStateException");
        for (int n = 20; n >= 1; n--) {
            Due.is("the crate number " + n + ", from the top", x.fetch(n % 10), n);
        }
        Due.is("all from the top, so none was moved", x.moves(), 0);
        for (int floor = 0; floor <= 9; floor++) {
            Due.is("none is left for floor " + floor, x.fetch(floor), Groutline.NONE);
        }
        for (int n = 1; n <= 20; n++) {
            Due.is("20 again, number " + n, x.crate(9, n), n);
        }
    }

    private static void takesTheTopmost() {
        Groutline x = Floors.with20Crates();
        for (int floor = 0; floor <= 9; floor++) {
            Due.is("the upper one for floor " + floor, x.fetch(floor), 10 + (floor + 9) % 10 + 1);
        }
        for (int floor = 0; floor <= 9; floor++) {
            Due.is("the lower one for floor " + floor, x.fetch(floor), (floor + 9) % 10 + 1);
        }
    }

    private static void putBackInTheirOrder() {
        Groutline x = new Groutline();
        x.crate(0, 5);
        for (int n = 1; n <= 19; n++) {
            x.crate(1 + n % 2, n);
        }
        Due.is("from the bottom of 20", x.fetch(0), 5);
        for (int n = 19; n >= 1; n--) {
            Due.is("then from the top, number " + n, x.fetch(1 + n % 2), n);
        }
        Due.is("19 were moved, each twice, once", x.moves(), 38);
    }

    private static void twoMovesForEach() {
        for (int above = 0; above <= 19; above++) {
            Groutline x = new Groutline();
            x.crate(9, 1);
            for (int n = 0; n < above; n++) {
                x.crate(8, 1);
            }
            x.fetch(9);
            Due.is("moves with " + above + " above", x.moves(), 2 * above);
        }
        Groutline below = new Groutline();
        below.crate(8, 1);
        below.crate(9, 1);
        below.fetch(9);
        Due.is("what stands below is not moved", below.moves(), 0);
    }

    private static void promise10() {
        String crate = "Promise 10";
        Due.sentence(crate, "`floor`: 0 to 9", CratesBoundsTest::crateFloor);
        Due.sentence(crate, "`many`: 1 to 100: its tiles", CratesBoundsTest::crateMany);
        Due.sentence(crate, "Returns how many crates there are.", CratesBoundsTest::crateReturnsHowMany);
        Due.sentence(crate, "Throws `IllegalArgumentException` if floor or many is out of range",
                CratesBoundsTest::crateThrowsForArguments);
        Due.sentence(crate, "Throws `IllegalStateException` if there are 20", CratesBoundsTest::crateThrowsIf20);
    }

    private static void crateFloor() {
        Groutline x = new Groutline();
        for (int floor = 0; floor <= 9; floor++) {
            Due.is("crate(" + floor + ", 7)", x.crate(floor, 7), floor + 1);
        }
        refusesCrate(-1, 1);
        refusesCrate(10, 1);
        for (int far : FAR) {
            refusesCrate(far, 1);
        }
    }

    private static void crateMany() {
        for (int many = 1; many <= 100; many++) {
            Groutline x = new Groutline();
            Due.is("crate(5, " + many + ")", x.crate(5, many), 1);
            Due.is("its tiles", x.fetch(5), many);
        }
        refusesCrate(5, 0);
        refusesCrate(5, -1);
        refusesCrate(5, 101);
        for (int far : FAR) {
            refusesCrate(5, far);
        }
    }

    private static void crateReturnsHowMany() {
        Groutline x = new Groutline();
        Due.is("the first one", x.crate(0, 1), 1);
        x.fetch(0);
        Due.is("the first one again", x.crate(0, 1), 1);
        for (int n = 2; n <= 20; n++) {
            Due.is("the crate number " + n, x.crate(0, 1), n);
        }
    }

    private static void crateThrowsForArguments() {
        refusesCrate(-1, 0);
        refusesCrate(10, 101);
        refusesCrate(-1, 101);
        refusesCrate(10, 0);
    }

    private static void crateThrowsIf20() {
        Due.refused(Floors::with20Crates, "crate(0, 1) with 20", Due.STATE, x -> x.crate(0, 1));
        Due.refused(Floors::with20Crates, "crate(9, 100) with 20", Due.STATE, x -> x.crate(9, 100));
        Due.refused(Floors::with20Crates, "crate(10, 1) with 20", Due.ARGUMENT, x -> x.crate(10, 1));
        Due.refused(Floors::with20Crates, "crate(-1, 1) with 20", Due.ARGUMENT, x -> x.crate(-1, 1));
        Due.refused(Floors::with20Crates, "crate(0, 0) with 20", Due.ARGUMENT, x -> x.crate(0, 0));
        Due.refused(Floors::with20Crates, "crate(0, 101) with 20", Due.ARGUMENT, x -> x.crate(0, 101));
        Groutline x = Floors.with20Crates();
        Due.is("one is fetched", x.fetch(1), 11);
        Due.is("so one can be put", x.crate(9, 100), 20);
        Due.is("and no other", Due.outcome(() -> x.crate(0, 1)), "throws IllegalStateException");
        Groutline laid = new Groutline();
        laid.lay(0);
        for (int n = 1; n <= 20; n++) {
            Due.is("a laid strip hinders no crate, number " + n, laid.crate(0, 1), n);
        }
    }

    private static void promise11() {
        String fetch = "Promise 11";
        Due.sentence(fetch, "`floor`: 0 to 9", CratesBoundsTest::fetchFloor);
        Due.sentence(fetch, "Returns how many tiles it has; NONE if there is none for that floor.",
                CratesBoundsTest::fetchReturnsNone);
        Due.sentence(fetch, "Throws `IllegalArgumentException` if floor is out of range",
                CratesBoundsTest::fetchThrowsForFloor);
    }

    private static void fetchFloor() {
        Groutline x = Floors.with20Crates();
        Due.is("fetch(0)", x.fetch(0), 20);
        Due.is("fetch(9)", x.fetch(9), 19);
        Due.is("fetch(1)", x.fetch(1), 11);
    }

    private static void fetchReturnsNone() {
        for (int floor = 0; floor <= 9; floor++) {
            Due.is("fetch(" + floor + ") of no crates", new Groutline().fetch(floor), Groutline.NONE);
        }
        Groutline x = new Groutline();
        x.crate(4, 1);
        Due.is("fetch(3) of one for 4", x.fetch(3), Groutline.NONE);
        Due.is("fetch(5) of one for 4", x.fetch(5), Groutline.NONE);
        Due.is("fetch(4): the least", x.fetch(4), 1);
        Due.is("fetch(4) again", x.fetch(4), Groutline.NONE);
        x.crate(4, 100);
        Due.is("fetch(4): the most", x.fetch(4), 100);
        Due.alike("fetch(9) of none for 9", CratesBoundsTest::fetched9, CratesBoundsTest::without9);
    }

    private static void fetchThrowsForFloor() {
        for (int floor : new int[] {-1, 10, 11}) {
            refusesFetch(floor);
        }
        for (int floor : FAR) {
            refusesFetch(floor);
        }
    }

    private static void promise12() {
        Due.sentence("Promise 12", "Returns how often a crate was moved aside, or back.", CratesBoundsTest::movesAtFirst);
    }

    private static void movesAtFirst() {
        Groutline x = new Groutline();
        Due.is("at first", x.moves(), 0);
        x.fetch(0);
        Due.is("behind a fetch of none", x.moves(), 0);
        for (int n = 1; n <= 20; n++) {
            x.crate(n == 1 ? 0 : 1, n);
        }
        Due.is("behind 20 crates", x.moves(), 0);
        Due.outcome(() -> x.crate(1, 1));
        x.fetch(2);
        Due.is("behind a crate refused and a fetch of none", x.moves(), 0);
        x.fetch(0);
        Due.is("behind a fetch from the bottom", x.moves(), 38);
        x.crate(0, 1);
        x.fetch(0);
        Due.is("behind a fetch from the top", x.moves(), 38);
        x.fetch(1);
        Due.is("it does not count from 0 again", x.moves(), 38);
        x.crate(5, 1);
        x.fetch(1);
        Due.is("it adds to what was", x.moves(), 40);
    }

    private static Groutline without9() {
        Groutline x = new Groutline();
        x.crate(8, 1);
        x.crate(0, 2);
        return x;
    }

    private static Groutline fetched9() {
        Groutline x = without9();
        x.fetch(9);
        return x;
    }

    private static void refusesCrate(int floor, int many) {
        Due.refused(Floors::changed, "crate(" + floor + ", " + many + ")", Due.ARGUMENT, x -> x.crate(floor, many));
        Due.refused(Groutline::new, "crate(" + floor + ", " + many + ") as the first", Due.ARGUMENT,
                x -> x.crate(floor, many));
    }

    private static void refusesFetch(int floor) {
        Due.refused(Floors::with20Crates, "fetch(" + floor + ")", Due.ARGUMENT, x -> x.fetch(floor));
        Due.refused(Groutline::new, "fetch(" + floor + ") of none", Due.ARGUMENT, x -> x.fetch(floor));
    }
}
