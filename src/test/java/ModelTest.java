import java.util.ArrayList;
import java.util.List;
import java.util.Map;
import java.util.Random;
import java.util.TreeMap;

/** Long runs of calls, right and wrong ones, against a model that is written plainly with maps and lists. */
public final class ModelTest {
    private static final int RUNS = 400, CALLS = 512, CALLS_AHEAD_OF_A_SWEEP = 200;

    public static void main(String[] args) {
        for (int run = 0; run < RUNS; run++) {
            Groutline x = new Groutline();
            Model model = new Model();
            if (run % 2 == 0) {
                compareChosen(run, x, model, CALLS);
            } else {
                compareChosen(run, x, model, CALLS_AHEAD_OF_A_SWEEP);
                sweep(run, x, model);
            }
        }
        Due.end();
    }

    private static void compareChosen(int run, Groutline x, Model model, int calls) {
        Random random = new Random(run);
        int seldomLaid = random.nextInt(3);
        for (int n = 0; n < calls; n++) {
            compare(run, n, x, model, chosen(random, seldomLaid == 0 || n > seldomLaid * calls / 3));
        }
    }

    /** Asks all cells, then the pieces from any one on, as far as the document's 512 calls go. */
    private static void sweep(int run, Groutline x, Model model) {
        int n = CALLS_AHEAD_OF_A_SWEEP;
        for (int cell = 0; cell < 96; cell++) {
            compare(run, n++, x, model, new int[] {PIECE_AT, cell % 12, cell / 12, 0, 0});
        }
        for (int piece = run % 3 * 30; n + 6 <= CALLS; piece++) {
            for (int what = 0; what < 6; what++) {
                compare(run, n++, x, model, new int[] {OF_PIECE, piece, what, 0, 0});
            }
        }
    }

    private static void compare(int run, int n, Groutline x, Model model, int[] a) {
        String call = "run " + run + ", call " + n + ": " + NAMES[a[0]] + "(" + a[1] + ", " + a[2] + ", " + a[3]
                + ", " + a[4] + ")";
        Due.is(call, Due.outcome(() -> made(x, a)), Due.outcome(() -> model.made(a)));
    }

    private static final String[] NAMES = {"plan", "pillar", "door", "ofPiece", "pieceAt", "piecesAnew", "tiles", "rest",
        "crate", "fetch", "moves", "grout", "lay", "dry", "strips", "pass"};
    private static final int OF_PIECE = 3, PIECE_AT = 4, LAY = 12;

    /** A call and its arguments, now and then just outside of what they may be. */
    private static int[] chosen(Random r, boolean mayLay) {
        int call = r.nextInt(NAMES.length);
        if (call == LAY && !mayLay) {
            call = r.nextInt(3);
        }
        switch (call) {
            case 0:
                return new int[] {call, near(r, 1, 4), near(r, 1, 4), near(r, 0, 2), near(r, 0, 1)};
            case 1:
                return new int[] {call, near(r, 0, 11), near(r, 0, 7), r.nextInt(3) == 0 ? 0 : 1, 0};
            case 2:
                return new int[] {call, near(r, 0, 10), 0, 0, 0};
            case OF_PIECE:
                return new int[] {call, near(r, 0, r.nextBoolean() ? 20 : 95), near(r, 0, 5), 0, 0};
            case PIECE_AT:
                return new int[] {call, near(r, 0, 11), near(r, 0, 7), 0, 0};
            case 7:
                return new int[] {call, near(r, 0, 3), 0, 0, 0};
            case 8:
                return new int[] {call, near(r, 0, 9), near(r, 1, 100), 0, 0};
            case 9:
                return new int[] {call, r.nextInt(3) == 0 ? near(r, 0, 9) : r.nextInt(2), 0, 0, 0};
            case 11:
                return new int[] {call, near(r, 0, 48), 0, 0, 0};
            case LAY:
            case 13:
                return new int[] {call, near(r, 0, 7), 0, 0, 0};
            case 15:
                return new int[] {call, near(r, 1, r.nextBoolean() ? 9 : 100), 0, 0, 0};
            default:
                return new int[] {call, 0, 0, 0, 0};
        }
    }

    private static int near(Random r, int least, int greatest) {
        switch (r.nextInt(60)) {
            case 0:
                return least - 1;
            case 1:
                return greatest + 1;
            case 2:
                return r.nextInt();
            default:
                return least + r.nextInt(greatest - least + 1);
        }
    }

    private static Object made(Groutline x, int[] a) {
        switch (a[0]) {
            case 0: return x.plan(a[1], a[2], a[3], a[4]);
            case 1: return x.pillar(a[1], a[2], a[3] == 1);
            case 2: return x.door(a[1]);
            case 3: return x.ofPiece(a[1], a[2]);
            case 4: return x.pieceAt(a[1], a[2]);
            case 5: return x.piecesAnew();
            case 6: return x.tiles();
            case 7: return x.rest(a[1]);
            case 8: return x.crate(a[1], a[2]);
            case 9: return x.fetch(a[1]);
            case 10: return x.moves();
            case 11: return x.grout(a[1]);
            case 12: return x.lay(a[1]);
            case 13: return x.dry(a[1]);
            case 14: return x.strips();
            default: return x.pass(a[1]);
        }
    }

    /** A piece: its cells in their order (row by row), and what it is cut from. */
    private static final class Piece {
        final List<int[]> cells = new ArrayList<>();
        int kind, strip, source = -1;
    }

    private static final class Rest {
        final int wide, high, maker;

        Rest(int wide, int high, int maker) {
            this.wide = wide;
            this.high = high;
            this.maker = maker;
        }
    }

    private static final class Model {
        int wide = 2, high = 2, border = 0, pattern = 0, door = 0, hour = 0, grout = 6, moves = 0, tiles;
        final boolean[][] pillars = new boolean[8][12];
        final Map<Integer, boolean[][]> barredWhenLaid = new TreeMap<>();
        final Map<Integer, Integer> dry = new TreeMap<>();
        final List<int[]> crates = new ArrayList<>();
        List<Integer> stripOfRow;
        List<Piece> pieces;
        List<Rest> rests;

        Model() {
            renew();
        }

        Object made(int[] a) {
            switch (a[0]) {
                case 0: return plan(a[1], a[2], a[3], a[4]);
                case 1: return pillar(a[1], a[2], a[3] == 1);
                case 2: return door(a[1]);
                case 3: return ofPiece(a[1], a[2]);
                case 4: return pieceAt(a[1], a[2]);
                case 5: return pieces.size();
                case 6: return tiles;
                case 7: return rest(a[1]);
                case 8: return crate(a[1], a[2]);
                case 9: return fetch(a[1]);
                case 10: return moves;
                case 11: return grout(a[1]);
                case 12: return lay(a[1]);
                case 13: return dry(a[1]);
                case 14: return strips();
                default: return pass(a[1]);
            }
        }

        int plan(int w, int h, int b, int p) {
            argument(w >= 1 && w <= 4 && h >= 1 && h <= 4 && b >= 0 && b <= 2 && p >= 0 && p <= 1);
            state(dry.isEmpty());
            wide = w;
            high = h;
            border = b;
            pattern = p;
            renew();
            return pieces.size();
        }

        boolean pillar(int column, int row, boolean is) {
            inside(column >= 0 && column <= 11 && row >= 0 && row <= 7);
            state(dry.isEmpty());
            boolean was = pillars[row][column];
            pillars[row][column] = is;
            renew();
            return was;
        }

        int door(int column) {
            inside(column >= 0 && column <= 10);
            door = column;
            renew();
            return pieces.size();
        }

        int ofPiece(int number, int what) {
            inside(number >= 0 && number < pieces.size());
            argument(what >= 0 && what <= 5);
            Piece p = pieces.get(number);
            int[] first = p.cells.get(0);
            return new int[] {p.kind, first[0], first[1], p.cells.size(), p.strip, p.source}[what];
        }

        int pieceAt(int column, int row) {
            inside(column >= 0 && column <= 11 && row >= 0 && row <= 7);
            for (int number = 0; number < pieces.size(); number++) {
                for (int[] cell : pieces.get(number).cells) {
                    if (cell[0] == column && cell[1] == row) {
                        return number;
                    }
                }
            }
            return -1;
        }

        int rest(int place) {
            inside(place >= 0);
            return place < rests.size() ? rests.get(place).wide * 10 + rests.get(place).high : -1;
        }

        int crate(int floor, int many) {
            argument(floor >= 0 && floor <= 9 && many >= 1 && many <= 100);
            state(crates.size() < 20);
            crates.add(new int[] {floor, many});
            return crates.size();
        }

        int fetch(int floor) {
            argument(floor >= 0 && floor <= 9);
            List<int[]> aside = new ArrayList<>();
            int many = -1;
            if (crates.stream().noneMatch(c -> c[0] == floor)) {
                return many;
            }
            while (many == -1) {
                int[] top = crates.remove(crates.size() - 1);
                if (top[0] == floor) {
                    many = top[1];
                } else {
                    aside.add(0, top);
                    moves++;
                }
            }
            for (int[] crate : aside) {
                crates.add(crate);
                moves++;
            }
            return many;
        }

        int grout(int hours) {
            argument(hours >= 0 && hours <= 48);
            int before = grout;
            grout = hours;
            return before;
        }

        int lay(int strip) {
            inside(strip >= 0 && strip < strips());
            state(!dry.containsKey(strip));
            dry.forEach((other, hourDry) -> state(other > strip || hourDry <= hour));
            boolean[][] barred = barred();
            int count = 0;
            for (Piece p : pieces) {
                count += p.strip == strip ? 1 : 0;
            }
            while (count > 0) {
                hour++;
                count -= 4;
            }
            dry.put(strip, hour + grout);
            barredWhenLaid.put(strip, barred);
            return hour;
        }

        int dry(int strip) {
            inside(strip >= 0 && strip < strips());
            return dry.getOrDefault(strip, -1);
        }

        int strips() {
            return stripOfRow.get(7) + 1;
        }

        int pass(int hours) {
            argument(hours >= 1 && hours <= 100);
            hour += hours;
            return hour;
        }

        boolean[][] barred() {
            boolean[][] barred = new boolean[8][12];
            for (int row = 0; row < 8; row++) {
                boolean[][] kept = barredWhenLaid.get(stripOfRow.get(row));
                for (int column = 0; column < 12; column++) {
                    boolean now = pillars[row][column] || row == 0 && (column == door || column == door + 1);
                    barred[row][column] = kept == null ? now : kept[row][column];
                }
            }
            return barred;
        }

        void renew() {
            stripOfRow = new ArrayList<>();
            for (int row = 0, strip = -1; row < 8; row++) {
                boolean begins = row <= border || row >= 8 - border || (row - border) % high == 0;
                strip += begins ? 1 : 0;
                stripOfRow.add(strip);
            }
            findPieces();
            cutPieces();
        }

        /** Goes from tile to tile, with those that begin left of the floor too, and sorts what is found. */
        void findPieces() {
            boolean[][] barred = barred();
            Map<Integer, Piece> byFirstCell = new TreeMap<>();
            for (int row = 0; row < 8; row++) {
                for (int column = 0; column < 12; column++) {
                    if (inBorder(column, row)) {
                        find(barred, column, row, 1, 1, true, byFirstCell);
                    }
                }
            }
            boolean second = false;
            for (int top = border; top < 8 - border; top += high) {
                int start = border - (second && pattern == 1 ? wide / 2 : 0);
                for (int left = start; left < 12 - border; left += wide) {
                    find(barred, left, top, wide, high, false, byFirstCell);
                }
                second = !second;
            }
            pieces = new ArrayList<>(byFirstCell.values());
        }

        boolean inBorder(int column, int row) {
            return Math.min(Math.min(column, 11 - column), Math.min(row, 7 - row)) < border;
        }

        void find(boolean[][] barred, int left, int top, int w, int h, boolean edge, Map<Integer, Piece> found) {
            Piece p = new Piece();
            for (int row = top; row < Math.min(8, top + h); row++) {
                for (int column = Math.max(0, left); column < Math.min(12, left + w); column++) {
                    if (!barred[row][column] && inBorder(column, row) == edge) {
                        p.cells.add(new int[] {column, row});
                    }
                }
            }
            if (!p.cells.isEmpty()) {
                int[] first = p.cells.get(0);
                p.kind = edge ? 2 : p.cells.size() == w * h ? 0 : 1;
                p.strip = stripOfRow.get(first[1]);
                found.put(first[1] * 12 + first[0], p);
            }
        }

        void cutPieces() {
            tiles = 0;
            rests = new ArrayList<>();
            for (int number = 0; number < pieces.size(); number++) {
                Piece p = pieces.get(number);
                p.source = -1;
                if (p.kind == 0) {
                    tiles++;
                } else if (p.kind == 1) {
                    cut(p, number);
                }
            }
        }

        void cut(Piece p, int number) {
            int w = 1 + p.cells.stream().mapToInt(c -> c[0]).max().getAsInt()
                    - p.cells.stream().mapToInt(c -> c[0]).min().getAsInt();
            int h = 1 + p.cells.get(p.cells.size() - 1)[1] - p.cells.get(0)[1];
            Rest taken = rests.stream().filter(r -> r.wide >= w && r.high >= h)
                    .reduce((a, b) -> b.wide * b.high < a.wide * a.high ? b : a).orElse(null);
            if (taken == null) {
                tiles++;
                taken = new Rest(wide, high, -1);
            }
            rests.remove(taken);
            p.source = taken.maker;
            Rest right = new Rest(taken.wide - w, taken.high, number);
            Rest below = new Rest(taken.wide, taken.high - h, number);
            Rest left = right.wide * right.high >= below.wide * below.high ? right : below;
            if (left.wide * left.high > 0) {
                rests.add(left);
            }
        }

        static void inside(boolean is) {
            if (!is) {
                throw new IndexOutOfBoundsException();
            }
        }

        static void argument(boolean is) {
            if (!is) {
                throw new IllegalArgumentException();
            }
        }

        static void state(boolean is) {
            if (!is) {
                throw new IllegalStateException();
            }
        }
    }
}
