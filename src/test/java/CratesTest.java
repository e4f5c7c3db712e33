/** Promises 10 to 12: crate, fetch, moves. */
public final class CratesTest {
    public static void main(String[] args) {
        promise10Crate();
        promise11Fetch();
        promise11KeepsTheOrder();
        promise12Moves();
        Due.end();
    }

    private static void promise10Crate() {
        Groutline x = new Groutline();
        for (int n = 1; n <= 20; n++) {
            Due.is("crate number " + n, x.crate(n % 10, 5 * n), n);
        }
        Due.is("the topmost for floor 0", x.fetch(0), 100);
        Due.is("a crate in its place", x.crate(9, 1), 20);
        Groutline y = new Groutline();
        y.lay(0);
        Due.is("a crate with a strip laid", y.crate(0, 100), 1);
    }

    private static void promise11Fetch() {
        Groutline x = new Groutline();
        Due.is("fetch(0) of none", x.fetch(0), Groutline.NONE);
        x.crate(1, 10);
        x.crate(2, 20);
        x.crate(1, 30);
        Due.is("fetch(9)", x.fetch(9), Groutline.NONE);
        Due.is("the topmost of floor 1", x.fetch(1), 30);
        Due.is("the other of floor 1", x.fetch(1), 10);
        Due.is("no more of floor 1", x.fetch(1), Groutline.NONE);
        Due.is("how many crates are left", x.crate(5, 1), 2);
        Due.is("floor 2", x.fetch(2), 20);
    }

    private static void promise11KeepsTheOrder() {
        Groutline x = new Groutline();
        x.crate(0, 1);
        x.crate(3, 11);
        x.crate(3, 12);
        x.crate(4, 21);
        x.crate(3, 13);
        Due.is("from the bottom", x.fetch(0), 1);
        Due.is("the topmost of 3", x.fetch(3), 13);
        Due.is("the next of 3", x.fetch(3), 12);
        Due.is("the last of 3", x.fetch(3), 11);
        Due.is("the one of 4", x.fetch(4), 21);
        Due.is("moves()", x.moves(), 2 * (4 + 0 + 1 + 1 + 0));
    }

    private static void promise12Moves() {
        Groutline x = new Groutline();
        Due.is("moves() at first", x.moves(), 0);
        x.crate(0, 10);
        Due.is("a crate is put without a move aside", x.moves(), 0);
        x.crate(1, 20);
        x.crate(0, 30);
        x.crate(2, 40);
        x.fetch(5);
        Due.is("none found, none moved", x.moves(), 0);
        x.fetch(0);
        Due.is("one above", x.moves(), 2);
        x.fetch(0);
        Due.is("two above", x.moves(), 6);
        x.fetch(2);
        Due.is("the topmost", x.moves(), 6);
        Groutline y = new Groutline();
        for (int n = 0; n < 20; n++) {
            y.crate(n == 0 ? 0 : 1, 1);
        }
        y.fetch(0);
        Due.is("19 above", y.moves(), 38);
    }
}
