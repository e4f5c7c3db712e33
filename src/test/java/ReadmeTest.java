import java.io.IOException;
import java.lang.reflect.Field;
import java.lang.reflect.Method;
import java.lang.reflect.Modifier;
import java.nio.file.Files;
import java.nio.file.Path;
import java.util.ArrayList;
import java.util.List;
import java.util.Map;
import java.util.TreeMap;
import java.util.regex.Matcher;
import java.util.regex.Pattern;

/** README.md says what the class does: its example's answers, each constant, and each call with what it throws. */
public final class ReadmeTest {
    private static final Pattern EXAMPLE_LINE = Pattern.compile("\\S+ \\S+ = (floor\\.[^;]*);\\s*// ([^, ]+).*");
    private static final Pattern CONSTANT_ROW = Pattern.compile("\\| `(\\w+ = -?\\d+)` \\|.*");
    private static final Pattern CALL_ROW = Pattern.compile("\\| `(\\w+)\\(([^)]*)\\)`.*\\|([^|]*)\\|");
    private static final Pattern EXCEPTION = Pattern.compile("`(\\w+Exception)`");

    public static void main(String[] args) throws IOException, ReflectiveOperationException {
        List<String> lines = Files.readAllLines(Path.of("README.md"));
        example(lines);
        constants(lines);
        calls(lines);
        Due.is("for how many calls an object is used", String.join("\n", lines).contains("at most 512 calls"), true);
        Due.is("the command that runs all tests", lines.contains("    .ci/run"), true);
        Due.end();
    }

    /** The calls stand here once more, in their order, so that the page's example cannot drift from the class. */
    private static void example(List<String> lines) {
        Groutline floor = new Groutline();
        List<String> due = new ArrayList<>(), told = new ArrayList<>();
        due.add("floor.plan(3, 2, 1, Groutline.BOND) " + floor.plan(3, 2, 1, Groutline.BOND));
        due.add("floor.pillar(5, 5, true) " + floor.pillar(5, 5, true));
        due.add("floor.door(4) " + floor.door(4));
        int piece = floor.pieceAt(5, 6);
        due.add("floor.pieceAt(5, 6) " + piece);
        due.add("floor.ofPiece(piece, 0) " + floor.ofPiece(piece, 0));
        due.add("floor.tiles() " + floor.tiles());
        due.add("floor.rest(0) " + floor.rest(0));
        due.add("floor.crate(2, 40) " + floor.crate(2, 40));
        due.add("floor.fetch(2) " + floor.fetch(2));
        due.add("floor.lay(1) " + floor.lay(1));
        due.add("floor.dry(1) " + floor.dry(1));
        due.add("floor.pass(6) " + floor.pass(6));
        due.add("floor.lay(2) " + floor.lay(2));
        for (String line : lines) {
            Matcher m = EXAMPLE_LINE.matcher(line);
            if (m.matches()) {
                told.add(m.group(1) + " " + m.group(2));
            }
        }
        Due.is("the example", told, due);
    }

    private static void constants(List<String> lines) throws ReflectiveOperationException {
        List<String> told = new ArrayList<>(), due = new ArrayList<>();
        for (String line : lines) {
            Matcher m = CONSTANT_ROW.matcher(line);
            if (m.matches()) {
                told.add(m.group(1));
            }
        }
        for (Field f : Groutline.class.getDeclaredFields()) {
            if (Modifier.isPublic(f.getModifiers())) {
                due.add(f.getName() + " = " + f.get(null));
            }
        }
        told.sort(null);
        due.sort(null);
        Due.is("the constants", told, due);
    }

    private static void calls(List<String> lines) {
        Map<String, String> told = new TreeMap<>(), due = new TreeMap<>();
        for (String line : lines) {
            Matcher m = CALL_ROW.matcher(line);
            if (m.matches()) {
                int parameters = m.group(2).isEmpty() ? 0 : m.group(2).split(", ").length;
                told.put(m.group(1), parameters + " parameters, throws " + exceptionsIn(m.group(3)));
            }
        }
        for (Method m : Groutline.class.getDeclaredMethods()) {
            if (Modifier.isPublic(m.getModifiers())) {
                due.put(m.getName(), m.getParameterCount() + " parameters, throws " + exceptionsOf(m));
            }
        }
        Due.is("the calls", told, due);
    }

    private static List<String> exceptionsIn(String told) {
        List<String> names = new ArrayList<>();
        Matcher m = EXCEPTION.matcher(told);
        while (m.find()) {
            names.add(m.group(1));
        }
        return names;
    }

    /** As they are declared, in the order in which they are thrown if several apply. */
    private static List<String> exceptionsOf(Method m) {
        List<String> names = new ArrayList<>();
        for (Class<?> declared : m.getExceptionTypes()) {
            names.add(declared.getSimpleName());
        }
        return names;
    }
}
