import java.util.Arrays;

/**
 * A floor that is laid with tiles: its plan, the cuts, the crates on the stairs, and the laying,
 * strip by strip. ../shared/DOC.md says what each call promises.
 */
public final class Groutline {
    public static final int NONE = -1;
    public static final int STRAIGHT = 0, BOND = 1;
    public static final int WHOLE = 0, CUT = 1, EDGE = 2;

    private static final int COLUMNS = 12, ROWS = 8, CELLS = COLUMNS * ROWS;
    private static final int DOOR_WIDE = 2;
    private static final int LARGEST_TILE_SIDE = 4, WIDEST_BORDER = 2;
    private static final int FLOORS = 10, MOST_CRATES = 20, MOST_IN_CRATE = 100;
    private static final int LONGEST_GROUT = 48, LONGEST_WAIT = 100;
    private static final int PIECES_IN_AN_HOUR = 4;
    private static final int TOLD_OF_PIECE = 6;

    private final Layout layout = new Layout();
    private final Bars bars = new Bars();
    private final Pieces pieces = new Pieces();
    private final Cuts cuts = new Cuts();
    private final Stack stack = new Stack();
    private final Work work = new Work();
    private final Frame frame = new Frame();

    public Groutline() {
        renew();
    }

    public int plan(int wide, int high, int border, int pattern)
            throws IllegalArgumentException, IllegalStateException {
        if (!isWithin(wide, 1, LARGEST_TILE_SIDE) || !isWithin(high, 1, LARGEST_TILE_SIDE)) {
            throw new IllegalArgumentException("a tile is 1 to 4 cells wide and high");
        }
        if (!isWithin(border, 0, WIDEST_BORDER)) {
            throw new IllegalArgumentException("a border has 0 to 2 cells");
        }
        if (pattern != STRAIGHT && pattern != BOND) {
            throw new IllegalArgumentException("a pattern is STRAIGHT or BOND");
        }
        if (work.hasBegun) {
            throw new IllegalStateException("a strip is laid");
        }
        layout.set(wide, high, border, pattern);
        renew();
        return pieces.count;
    }

    public boolean pillar(int column, int row, boolean is)
            throws IndexOutOfBoundsException, IllegalStateException {
        if (!isCell(column, row)) {
            throw new IndexOutOfBoundsException("no such cell");
        }
        if (work.hasBegun) {
            throw new IllegalStateException("a strip is laid");
        }
        boolean was = bars.setPillar(column, row, is);
        renew();
        return was;
    }

    public int door(int column) throws IndexOutOfBoundsException {
        if (!isWithin(column, 0, COLUMNS - DOOR_WIDE)) {
            throw new IndexOutOfBoundsException("no such column for the door");
        }
        bars.doorColumn = column;
        renew();
        return pieces.count;
    }

    public int ofPiece(int piece, int what) throws IndexOutOfBoundsException, IllegalArgumentException {
        if (!pieces.has(piece)) {
            throw new IndexOutOfBoundsException("no such piece");
        }
        if (!isWithin(what, 0, TOLD_OF_PIECE - 1)) {
            throw new IllegalArgumentException("what is 0 to 5");
        }
        switch (what) {
            case 0:
                return pieces.kinds[piece];
            case 1:
                return pieces.columns[piece];
            case 2:
                return pieces.rows[piece];
            case 3:
                return pieces.sizes[piece];
            case 4:
                return layout.stripOfRow(pieces.rows[piece]);
            default:
                return cuts.sources[piece];
        }
    }

    public int pieceAt(int column, int row) throws IndexOutOfBoundsException {
        if (!isCell(column, row)) {
            throw new IndexOutOfBoundsException("no such cell");
        }
        return pieces.ofCells[cellAt(column, row)];
    }

    public int piecesAnew() {
        int found = 0;
        for (int row = 0; row < ROWS; row++) {
            for (int column = 0; column < COLUMNS; column++) {
                if (isFirstOfItsPiece(column, row)) {
                    found++;
                }
            }
        }
        return found;
    }

    public int tiles() {
        return cuts.newTiles;
    }

    public int rest(int place) throws IndexOutOfBoundsException {
        if (place < 0) {
            throw new IndexOutOfBoundsException("no place below 0");
        }
        return cuts.sizeOfRest(place);
    }

    public int crate(int floor, int many) throws IllegalArgumentException, IllegalStateException {
        if (!isFloor(floor)) {
            throw new IllegalArgumentException("a floor is 0 to 9");
        }
        if (!isWithin(many, 1, MOST_IN_CRATE)) {
            throw new IllegalArgumentException("a crate has 1 to 100 tiles");
        }
        if (stack.isFull()) {
            throw new IllegalStateException("there are 20 crates");
        }
        stack.put(floor, many);
        return stack.count;
    }

    public int fetch(int floor) throws IllegalArgumentException {
        if (!isFloor(floor)) {
            throw new IllegalArgumentException("a floor is 0 to 9");
        }
        return stack.takeTopmostFor(floor);
    }

    public int moves() {
        return stack.moved;
    }

    public int grout(int hours) throws IllegalArgumentException {
        if (!isWithin(hours, 0, LONGEST_GROUT)) {
            throw new IllegalArgumentException("grout dries 0 to 48 hours");
        }
        int before = work.groutHours;
        work.groutHours = hours;
        return before;
    }

    public int lay(int strip) throws IndexOutOfBoundsException, IllegalStateException {
        if (!layout.hasStrip(strip)) {
            throw new IndexOutOfBoundsException("no such strip");
        }
        if (!work.canStart(strip)) {
            throw new IllegalStateException("the strip is laid, or one ahead of it is not dry");
        }
        work.finish(strip, piecesOfStrip(strip));
        return work.hour;
    }

    public int dry(int strip) throws IndexOutOfBoundsException {
        if (!layout.hasStrip(strip)) {
            throw new IndexOutOfBoundsException("no such strip");
        }
        return work.dryHourOf(strip);
    }

    public int strips() {
        return layout.countStrips();
    }

    public int pass(int hours) throws IllegalArgumentException {
        if (!isWithin(hours, 1, LONGEST_WAIT)) {
            throw new IllegalArgumentException("to wait takes 1 to 100 hours");
        }
        work.hour += hours;
        return work.hour;
    }

    private void renew() {
        bars.renew(layout, work);
        pieces.find(layout, bars);
        cuts.cutAll(layout, pieces);
    }

    private int piecesOfStrip(int strip) {
        int found = 0;
        for (int piece = 0; piece < CELLS; piece++) {
            if (pieces.has(piece) && layout.stripOfRow(pieces.rows[piece]) == strip) {
                found++;
            }
        }
        return found;
    }

    /** Asks the cells alone, not the numbered pieces, so that it is a count of its own. */
    private boolean isFirstOfItsPiece(int column, int row) {
        if (bars.areAt(column, row)) {
            return false;
        }
        layout.frame(column, row, frame);
        for (int r = frame.top; r <= row; r++) {
            for (int c = frame.left; c < frame.right; c++) {
                boolean ahead = r < row || c < column;
                if (ahead && !bars.areAt(c, r)) {
                    return false;
                }
            }
        }
        return true;
    }

    private static boolean isWithin(int number, int least, int greatest) {
        return number >= least && number <= greatest;
    }

    private static boolean isCell(int column, int row) {
        return column >= 0 && column < COLUMNS && row >= 0 && row < ROWS;
    }

    private static boolean isFloor(int floor) {
        return isWithin(floor, 0, FLOORS - 1);
    }

    private static int cellAt(int column, int row) {
        return row * COLUMNS + column;
    }

    /** How often a size goes into a length; the only division, so that its divisor is tested once for all. */
    private static int timesIn(int size, int length) {
        return size < 1 ? 0 : length / size;
    }

    /** Where the courses, their tiles, the border and the strips lie, whatever is barred. */
    private static final class Layout {
        int wide = 2, high = 2, border = 0, pattern = STRAIGHT;

        void set(int newWide, int newHigh, int newBorder, int newPattern) {
            wide = newWide;
            high = newHigh;
            border = newBorder;
            pattern = newPattern;
        }

        boolean isBorder(int column, int row) {
            return column < border || column >= rightBorder() || row < border || row >= lowerBorder();
        }

        int rightBorder() {
            return COLUMNS - border;
        }

        int lowerBorder() {
            return ROWS - border;
        }

        int courseOfRow(int row) {
            return timesIn(high, row - border);
        }

        /** The last course may be cut off by the border below; it counts all the same. */
        int countCourses() {
            return courseOfRow(lowerBorder() - 1) + 1;
        }

        int countStrips() {
            return border + countCourses() + border;
        }

        boolean hasStrip(int strip) {
            return strip >= 0 && strip < countStrips();
        }

        int stripOfRow(int row) {
            if (row < border) {
                return row;
            }
            if (row >= lowerBorder()) {
                return border + countCourses() + row - lowerBorder();
            }
            return border + courseOfRow(row);
        }

        /** Frames what can be of a cell's piece: the cell itself in the border, within it its tile. */
        void frame(int column, int row, Frame frame) {
            if (isBorder(column, row)) {
                frame.set(column, column + 1, row, row + 1);
                return;
            }
            int course = courseOfRow(row);
            boolean shifted = pattern == BOND && (course & 1) == 1;
            int first = border - (shifted ? wide >> 1 : 0);
            int left = first + timesIn(wide, column - first) * wide;
            int top = border + course * high;
            frame.set(Math.max(left, border), Math.min(left + wide, rightBorder()),
                    top, Math.min(top + high, lowerBorder()));
        }
    }

    /** A rectangle of cells, from its left column and its top row to those behind its last ones. */
    private static final class Frame {
        int left = 0, right = 0, top = 0, bottom = 0;

        void set(int newLeft, int newRight, int newTop, int newBottom) {
            left = newLeft;
            right = newRight;
            top = newTop;
            bottom = newBottom;
        }
    }

    /** The pillars, the door, and which cells they bar. */
    private static final class Bars {
        final boolean[] pillars = new boolean[CELLS];
        final boolean[] barred = new boolean[CELLS];
        int doorColumn = 0;

        boolean setPillar(int column, int row, boolean is) {
            if (!isCell(column, row)) {
                return false;
            }
            boolean was = pillars[cellAt(column, row)];
            pillars[cellAt(column, row)] = is;
            return was;
        }

        boolean areAt(int column, int row) {
            return isCell(column, row) && barred[cellAt(column, row)];
        }

        /** The rows of strips that are laid keep what barred them. */
        void renew(Layout layout, Work work) {
            for (int row = 0; row < ROWS; row++) {
                if (!work.isLaid(layout.stripOfRow(row))) {
                    renewRow(row);
                }
            }
        }

        private void renewRow(int row) {
            for (int column = 0; column < COLUMNS; column++) {
                if (isCell(column, row)) {
                    int cell = cellAt(column, row);
                    barred[cell] = pillars[cell] || isDoor(column, row);
                }
            }
        }

        private boolean isDoor(int column, int row) {
            return row == 0 && column >= doorColumn && column < doorColumn + DOOR_WIDE;
        }
    }

    /** The pieces by their numbers, and which of them each cell has. */
    private static final class Pieces {
        int count = 0;
        final int[] ofCells = new int[CELLS];
        final int[] kinds = new int[CELLS];
        final int[] columns = new int[CELLS];
        final int[] rows = new int[CELLS];
        final int[] sizes = new int[CELLS];
        final int[] boxWides = new int[CELLS];
        final int[] boxHighs = new int[CELLS];
        private final Frame frame = new Frame();

        boolean has(int piece) {
            return piece >= 0 && piece < count && piece < CELLS;
        }

        void find(Layout layout, Bars bars) {
            count = 0;
            Arrays.fill(ofCells, NONE);
            for (int row = 0; row < ROWS; row++) {
                for (int column = 0; column < COLUMNS; column++) {
                    boolean isNew = ofCells[cellAt(column, row)] == NONE && !bars.areAt(column, row);
                    if (isNew && count < CELLS) {
                        add(layout, bars, column, row);
                    }
                }
            }
        }

        /** Adds the piece whose first cell this is. */
        private void add(Layout layout, Bars bars, int column, int row) {
            int piece = count++;
            if (!has(piece)) {
                return;
            }
            columns[piece] = column;
            rows[piece] = row;
            layout.frame(column, row, frame);
            measure(bars, piece);
            if (layout.isBorder(column, row)) {
                kinds[piece] = EDGE;
            } else {
                kinds[piece] = sizes[piece] == layout.wide * layout.high ? WHOLE : CUT;
            }
        }

        /** Marks the cells of the piece in the frame, counts them, and finds the least rectangle that has them all. */
        private void measure(Bars bars, int piece) {
            if (!has(piece)) {
                return;
            }
            int size = 0, leftmost = frame.right, rightmost = frame.left, lowest = frame.top;
            for (int row = rows[piece]; row < frame.bottom; row++) {
                for (int column = frame.left; column < frame.right; column++) {
                    if (isCell(column, row) && !bars.areAt(column, row)) {
                        ofCells[cellAt(column, row)] = piece;
                        size++;
                        leftmost = Math.min(leftmost, column);
                        rightmost = Math.max(rightmost, column);
                        lowest = row;
                    }
                }
            }
            sizes[piece] = size;
            boxWides[piece] = rightmost - leftmost + 1;
            boxHighs[piece] = lowest - rows[piece] + 1;
        }
    }

    /** What each piece is cut from, how many new tiles that takes, and the rests, the oldest one first. */
    private static final class Cuts {
        int newTiles = 0;
        final int[] sources = new int[CELLS];
        int restCount = 0;
        final int[] restWides = new int[CELLS];
        final int[] restHighs = new int[CELLS];
        final int[] restMakers = new int[CELLS];

        int sizeOfRest(int place) {
            return hasRest(place) ? 10 * restWides[place] + restHighs[place] : NONE;
        }

        void cutAll(Layout layout, Pieces pieces) {
            newTiles = 0;
            restCount = 0;
            Arrays.fill(sources, NONE);
            for (int piece = 0; piece < CELLS; piece++) {
                if (!pieces.has(piece)) {
                    break;
                }
                if (pieces.kinds[piece] == WHOLE) {
                    newTiles++;
                } else if (pieces.kinds[piece] == CUT) {
                    cut(layout, piece, pieces.boxWides[piece], pieces.boxHighs[piece]);
                }
            }
        }

        private boolean hasRest(int place) {
            return place >= 0 && place < restCount && place < CELLS;
        }

        private void cut(Layout layout, int piece, int wide, int high) {
            int place = bestRestFor(wide, high);
            if (!hasRest(place)) {
                newTiles++;
                leave(piece, layout.wide, layout.high, wide, high);
                return;
            }
            int restWide = restWides[place], restHigh = restHighs[place];
            if (piece >= 0 && piece < CELLS) {
                sources[piece] = restMakers[place];
            }
            removeRest(place);
            leave(piece, restWide, restHigh, wide, high);
        }

        private int bestRestFor(int wide, int high) {
            int best = NONE, leastCells = 0;
            for (int place = 0; place < restCount && place < CELLS; place++) {
                boolean fits = restWides[place] >= wide && restHighs[place] >= high;
                int cells = restWides[place] * restHighs[place];
                if (fits && (best == NONE || cells < leastCells)) {
                    best = place;
                    leastCells = cells;
                }
            }
            return best;
        }

        private void removeRest(int place) {
            if (!hasRest(place)) {
                return;
            }
            for (int next = place + 1; next < restCount && next < CELLS; next++) {
                restWides[next - 1] = restWides[next];
                restHighs[next - 1] = restHighs[next];
                restMakers[next - 1] = restMakers[next];
            }
            restCount--;
        }

        /** Keeps the greater one of what is right of and what is below the rectangle that was cut. */
        private void leave(int maker, int wholeWide, int wholeHigh, int wide, int high) {
            int right = (wholeWide - wide) * wholeHigh, below = wholeWide * (wholeHigh - high);
            if (right == 0 && below == 0) {
                return;
            }
            if (right >= below) {
                addRest(maker, wholeWide - wide, wholeHigh);
            } else {
                addRest(maker, wholeWide, wholeHigh - high);
            }
        }

        private void addRest(int maker, int wide, int high) {
            int place = restCount++;
            if (hasRest(place)) {
                restWides[place] = wide;
                restHighs[place] = high;
                restMakers[place] = maker;
            }
        }
    }

    /** The crates on the stairs, the lowest one first. */
    private static final class Stack {
        int count = 0;
        int moved = 0;
        final int[] crateFloors = new int[MOST_CRATES];
        final int[] crateTiles = new int[MOST_CRATES];

        boolean isFull() {
            return count >= MOST_CRATES;
        }

        void put(int floor, int many) {
            if (count >= 0 && count < MOST_CRATES) {
                crateFloors[count] = floor;
                crateTiles[count] = many;
                count++;
            }
        }

        int takeTopmostFor(int floor) {
            for (int place = count - 1; place >= 0; place--) {
                if (has(place) && crateFloors[place] == floor) {
                    int many = crateTiles[place];
                    remove(place);
                    return many;
                }
            }
            return NONE;
        }

        private boolean has(int place) {
            return place >= 0 && place < count && place < MOST_CRATES;
        }

        /** Each crate above is moved aside and back, so two moves for each. */
        private void remove(int place) {
            if (!has(place)) {
                return;
            }
            for (int above = place + 1; above < count && above < MOST_CRATES; above++) {
                crateFloors[above - 1] = crateFloors[above];
                crateTiles[above - 1] = crateTiles[above];
                moved += 2;
            }
            count--;
        }
    }

    /** The hour, the grout, and when each strip that is laid is dry. */
    private static final class Work {
        int hour = 0;
        int groutHours = 6;
        boolean hasBegun = false;
        final boolean[] laid = new boolean[ROWS];
        final int[] dryHours = new int[ROWS];

        boolean isLaid(int strip) {
            return strip >= 0 && strip < ROWS && laid[strip];
        }

        int dryHourOf(int strip) {
            return isLaid(strip) ? dryHours[strip] : NONE;
        }

        boolean canStart(int strip) {
            if (isLaid(strip)) {
                return false;
            }
            for (int ahead = 0; ahead < strip && ahead < ROWS; ahead++) {
                if (laid[ahead] && hour < dryHours[ahead]) {
                    return false;
                }
            }
            return true;
        }

        void finish(int strip, int pieceCount) {
            if (strip < 0 || strip >= ROWS) {
                return;
            }
            hour += timesIn(PIECES_IN_AN_HOUR, pieceCount + PIECES_IN_AN_HOUR - 1);
            laid[strip] = true;
            dryHours[strip] = hour + groutHours;
            hasBegun = true;
        }
    }
}
