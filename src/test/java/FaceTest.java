import java.lang.reflect.Constructor;
import java.lang.reflect.Field;
import java.lang.reflect.Method;
import java.lang.reflect.Modifier;
import java.util.ArrayList;
import java.util.HashSet;
import java.util.List;
import java.util.Set;
import java.util.TreeSet;

/** The class has the document's face, and no more; LANGUAGE.md's rules 1, 5 and 6 where reflection sees them. */
public final class FaceTest {
    private static final String FACE = "[crate(int,int):int, door(int):int, dry(int):int, fetch(int):int,"
            + " grout(int):int, lay(int):int, moves():int, ofPiece(int,int):int, pass(int):int,"
            + " pieceAt(int,int):int, piecesAnew():int, pillar(int,int,boolean):boolean,"
            + " plan(int,int,int,int):int, rest(int):int, strips():int, tiles():int]";
    private static final String CONSTANTS = "[BOND=1, CUT=1, EDGE=2, NONE=-1, STRAIGHT=0, WHOLE=0]";

    public static void main(String[] args) throws ReflectiveOperationException {
        Class<Groutline> face = Groutline.class;
        Due.is("public and final", face.getModifiers(), Modifier.PUBLIC | Modifier.FINAL);
        Set<String> methods = new TreeSet<>(), constants = new TreeSet<>();
        Set<String> publicNames = new HashSet<>();
        for (Method m : face.getDeclaredMethods()) {
            if (!Modifier.isPrivate(m.getModifiers())) {
                methods.add(told(m));
                publicNames.add(m.getName());
            }
        }
        Due.is("methods", methods.toString(), FACE);
        for (Field f : face.getDeclaredFields()) {
            if (!Modifier.isPrivate(f.getModifiers())) {
                Due.is(f.getName() + "'s modifiers", f.getModifiers(),
                        Modifier.PUBLIC | Modifier.STATIC | Modifier.FINAL);
                constants.add(f.getName() + "=" + f.get(null));
            }
        }
        Due.is("constants", constants.toString(), CONSTANTS);
        constructors(face);
        for (Class<?> c : all(face)) {
            noOtherUseOfPublicNames(c, face, publicNames);
            staticFieldsAreFinal(c);
        }
        Due.end();
    }

    private static void constructors(Class<?> face) {
        Constructor<?>[] made = face.getDeclaredConstructors();
        Due.is("constructors", made.length, 1);
        Due.is("the constructor's modifiers", made[0].getModifiers(), Modifier.PUBLIC);
        Due.is("the constructor's parameters", made[0].getParameterCount(), 0);
    }

    private static void noOtherUseOfPublicNames(Class<?> c, Class<?> face, Set<String> names) {
        for (Method m : c.getDeclaredMethods()) {
            boolean ofTheFace = c == face && Modifier.isPublic(m.getModifiers());
            Due.is(c.getName() + "." + m.getName() + " bears a public name", !ofTheFace && names.contains(m.getName()),
                    false);
        }
    }

    private static void staticFieldsAreFinal(Class<?> c) {
        for (Field f : c.getDeclaredFields()) {
            boolean changes = Modifier.isStatic(f.getModifiers()) && !Modifier.isFinal(f.getModifiers());
            Due.is(c.getName() + "." + f.getName() + " is static and not final", changes, false);
        }
    }

    private static List<Class<?>> all(Class<?> face) {
        List<Class<?>> classes = new ArrayList<>();
        classes.add(face);
        for (Class<?> inside : face.getDeclaredClasses()) {
            classes.add(inside);
            Due.is(inside.getName() + " is static, and not public or protected",
                    Modifier.isStatic(inside.getModifiers())
                            && (inside.getModifiers() & (Modifier.PUBLIC | Modifier.PROTECTED)) == 0, true);
        }
        return classes;
    }

    private static String told(Method m) {
        StringBuilder text = new StringBuilder(m.getName()).append('(');
        for (int i = 0; i < m.getParameterCount(); i++) {
            text.append(i == 0 ? "" : ",").append(m.getParameterTypes()[i].getName());
        }
        return text.append("):").append(m.getReturnType().getName()).toString();
    }
}
