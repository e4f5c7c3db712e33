/** What the tests share: answers that are due, exceptions that are due, and what can be asked of a floor. */
final class Due {
    static final Class<IndexOutOfBoundsException> OUTSIDE = IndexOutOfBoundsException.class;
    static final Class<IllegalArgumentException> ARGUMENT = IllegalArgumentException.class;
    static final Class<IllegalStateException> STATE = IllegalStateException.class;

    interface Call {
        Object answer();
    }

    private static int asked = 0;
    private static int wrong = 0;

    private Due() {
    }

    static void is(String call, Object got, Object want) {
        asked++;
        if (!want.equals(got)) {
            wrong++;
            System.out.println(call + " answered " + got + ", due is " + want);
        }
    }

    /** The call throws just this exception, and nothing that can be asked of the floor is changed by it. */
    static void refused(Groutline x, String call, Class<? extends RuntimeException> want, Call made) {
        String before = everythingOf(x);
        is(call, outcome(made), "throws " + want.getSimpleName());
        is("all answers after " + call, everythingOf(x), before);
    }

    static String outcome(Call made) {
        try {
            return String.valueOf(made.answer());
        } catch (RuntimeException e) {
            return "throws " + e.getClass().getSimpleName();
        }
    }

    /** Every answer that can be asked without changing anything. */
    static String everythingOf(Groutline x) {
        StringBuilder all = new StringBuilder();
        int count = x.piecesAnew();
        all.append("pieces ").append(count).append(" tiles ").append(x.tiles());
        all.append(" strips ").append(x.strips()).append(" moves ").append(x.moves());
        for (int row = 0; row < 8; row++) {
            all.append("\nrow ").append(row).append(':');
            for (int column = 0; column < 12; column++) {
                all.append(' ').append(x.pieceAt(column, row));
            }
        }
        for (int piece = 0; piece < count; piece++) {
            all.append("\npiece ").append(piece).append(':').append(pieceOf(x, piece));
        }
        all.append("\nrests:").append(restsOf(x)).append("\ndry:");
        for (int strip = 0; strip < x.strips(); strip++) {
            all.append(' ').append(x.dry(strip));
        }
        return all.toString();
    }

    /** What ofPiece tells: kind, column, row, cells, strip, source. */
    static String pieceOf(Groutline x, int piece) {
        StringBuilder told = new StringBuilder();
        for (int what = 0; what <= 5; what++) {
            told.append(' ').append(x.ofPiece(piece, what));
        }
        return told.toString();
    }

    static String restsOf(Groutline x) {
        StringBuilder rests = new StringBuilder();
        for (int place = 0; place < 96 && x.rest(place) != Groutline.NONE; place++) {
            rests.append(' ').append(x.rest(place));
        }
        return rests.toString();
    }

    static void end() {
        System.out.println(asked + " answers asked, " + wrong + " not as due");
        if (asked == 0 || wrong != 0) {
            System.exit(1);
        }
    }
}
