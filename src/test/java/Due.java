import java.util.List;

/** What the tests share: answers that are due, exceptions that are due, and floors that are to be alike. */
final class Due {
    static final Class<IndexOutOfBoundsException> OUTSIDE = IndexOutOfBoundsException.class;
    static final Class<IllegalArgumentException> ARGUMENT = IllegalArgumentException.class;
    static final Class<IllegalStateException> STATE = IllegalStateException.class;

    interface Call {
        Object answer();
    }

    /** Makes a floor, the same one each time. */
    interface Made {
        Groutline floor();
    }

    interface Asked {
        Object of(Groutline x);
    }

    /** Questions of which each has a floor of its own, so that none is asked more than the document's 512 calls. */
    private static final List<Asked> PROBES = List.of(Due::cellsOf, x -> piecesOf(x, 0, 48), x -> piecesOf(x, 48, 96),
            Due::hiddenOf, Due::layingOf);

    private static String sentence = "";
    private static int asked = 0;
    private static int wrong = 0;

    private Due() {
    }

    /** The test of one sentence, which must stand in that section of the document. */
    static void sentence(String section, String words, Runnable test) {
        sentence = section + ", \"" + words + "\": ";
        is("the document has the sentence", Document.has(section, words), true);
        int before = asked;
        try {
            test.run();
        } catch (RuntimeException e) {
            is("the test", "ended with " + e, "ends");
        }
        is("something is asked", asked > before, true);
        sentence = "";
    }

    static void is(String call, Object got, Object want) {
        asked++;
        if (!want.equals(got)) {
            wrong++;
            System.out.println(sentence + call + " answered " + got + ", due is " + want);
        }
    }

    /** The call throws just this exception, and nothing is changed by it. */
    static void refused(Made made, String call, Class<? extends RuntimeException> want, Asked refused) {
        is(call, outcome(() -> refused.of(made.floor())), "throws " + want.getSimpleName());
        Made after = () -> {
            Groutline x = made.floor();
            outcome(() -> refused.of(x));
            return x;
        };
        alike("after " + call, after, made);
    }

    /** Both floors answer alike, whatever is asked of them and done with them. */
    static void alike(String what, Made one, Made other) {
        for (int probe = 0; probe < PROBES.size(); probe++) {
            is(what + ", probe " + probe, PROBES.get(probe).of(one.floor()), PROBES.get(probe).of(other.floor()));
        }
    }

    static String outcome(Call made) {
        try {
            return String.valueOf(made.answer());
        } catch (RuntimeException e) {
            return "throws " + e.getClass().getSimpleName();
        }
    }

    /** What ofPiece tells: kind, column, row, cells, strip, source. */
    static String pieceOf(Groutline x, int piece) {
        StringBuilder told = new StringBuilder();
        for (int what = 0; what <= 5; what++) {
            told.append(' ').append(x.ofPiece(piece, what));
        }
        return told.toString();
    }

    static String restsOf(Groutline x) {
        StringBuilder rests = new StringBuilder();
        for (int place = 0; place < 96 && x.rest(place) != Groutline.NONE; place++) {
            rests.append(' ').append(x.rest(place));
        }
        return rests.toString();
    }

    /** Which piece each cell has, row by row. */
    static String numbersOf(Groutline x) {
        StringBuilder numbers = new StringBuilder();
        for (int row = 0; row < 8; row++) {
            numbers.append("\nrow ").append(row).append(':');
            for (int column = 0; column < 12; column++) {
                numbers.append(' ').append(x.pieceAt(column, row));
            }
        }
        return numbers.toString();
    }

    /** All that is asked without a piece's number. */
    private static String cellsOf(Groutline x) {
        StringBuilder all = new StringBuilder(numbersOf(x));
        all.append("\npieces ").append(x.piecesAnew()).append(" tiles ").append(x.tiles());
        all.append(" strips ").append(x.strips()).append(" moves ").append(x.moves());
        all.append("\nrests:").append(restsOf(x)).append("\ndry:");
        for (int strip = 0; strip < x.strips(); strip++) {
            all.append(' ').append(x.dry(strip));
        }
        return all.toString();
    }

    private static String piecesOf(Groutline x, int from, int to) {
        StringBuilder all = new StringBuilder();
        int count = x.piecesAnew();
        for (int piece = from; piece < to && piece < count; piece++) {
            all.append("\npiece ").append(piece).append(':').append(pieceOf(x, piece));
        }
        return all.toString();
    }

    /** What no question tells: the grout, the hour, the crates, the pillars, and the tiles without them. */
    private static String hiddenOf(Groutline x) {
        StringBuilder all = new StringBuilder();
        all.append("grout ").append(x.grout(0)).append(" hour ").append(x.pass(1)).append("\ncrates:");
        for (int floor = 0; floor <= 9; floor++) {
            for (int many = x.fetch(floor); many != Groutline.NONE; many = x.fetch(floor)) {
                all.append(' ').append(floor).append(' ').append(many).append(" moves ").append(x.moves());
            }
        }
        all.append("\npillars:");
        for (int cell = 0; cell < 96; cell++) {
            int column = cell % 12, row = cell / 12;
            all.append(' ').append(outcome(() -> x.pillar(column, row, false)));
        }
        return all.append(numbersOf(x)).append(" door(10): ").append(x.door(10)).toString();
    }

    private static String layingOf(Groutline x) {
        StringBuilder all = new StringBuilder();
        for (int strip = x.strips() - 1; strip >= 0; strip--) {
            int laid = strip;
            all.append(' ').append(outcome(() -> x.lay(laid))).append(" dry ").append(x.dry(strip));
        }
        for (int strip = 0; strip < x.strips(); strip++) {
            int laid = strip;
            all.append(' ').append(x.pass(10)).append(' ').append(outcome(() -> x.lay(laid)));
            all.append(" dry ").append(x.dry(strip));
        }
        return all.toString();
    }

    static void end() {
        System.out.println(asked + " answers asked, " + wrong + " not as due");
        if (asked == 0 || wrong != 0) {
            System.exit(1);
        }
    }
}
