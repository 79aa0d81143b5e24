import java.lang.reflect.Constructor;
import java.lang.reflect.Field;
import java.lang.reflect.Method;
import java.lang.reflect.Modifier;
import java.util.Arrays;
import java.util.Set;
import java.util.TreeSet;
import java.util.stream.Collectors;

/** The public face, and promise 1. */
public final class FaceTest {
    private static final String ARGUMENT = " throws IllegalArgumentException";
    private static final String BOTH = ARGUMENT + ", IllegalStateException";

    /** As the document writes them, without the names of the parameters. */
    private static final Set<String> METHODS = Set.of(
            "public int storey(int)" + BOTH, "public void level(int, int)" + BOTH, "public int type(int)" + BOTH,
            "public void thickness(int, int)" + BOTH, "public int wall(int, int, int, int, int, int)" + BOTH,
            "public void move(int, int, int)" + BOTH, "public void retype(int, int)" + BOTH,
            "public void remove(int)" + BOTH, "public int opening(int, int, int)" + BOTH,
            "public int copy(int, int)" + BOTH, "public boolean undo()", "public boolean redo()",
            "public int acts(int)" + ARGUMENT, "public int many(int)" + ARGUMENT,
            "public long wallAt(int, int)" + ARGUMENT, "public int openingAt(int, int)" + ARGUMENT,
            "public long storeyAt(int, int)" + ARGUMENT, "public long typeAt(int, int)" + ARGUMENT,
            "public int body(int, int, int, int)" + ARGUMENT);

    public static void main(String[] args) {
        theClass();
        methods();
        constructors();
        fields();
        newObject();
        objectsShareNothing();
        Check.end("FaceTest");
    }

    private static void theClass() {
        Check.same("the class is public and final", StoreyShapes.class.getModifiers(), Modifier.PUBLIC | Modifier.FINAL);
        Check.yes("it has no package", StoreyShapes.class.getPackageName().isEmpty());
        Check.yes("it extends nothing", StoreyShapes.class.getSuperclass() == Object.class);
        Check.same("it implements nothing", StoreyShapes.class.getInterfaces().length, 0);
        for (Class<?> c : StoreyShapes.class.getDeclaredClasses()) {
            int how = c.getModifiers();
            Check.yes("static and not of the face: " + c,
                    Modifier.isStatic(how) && !Modifier.isPublic(how) && !Modifier.isProtected(how));
        }
    }

    private static void methods() {
        Set<String> open = new TreeSet<>();
        Set<String> names = new TreeSet<>();
        for (Method m : StoreyShapes.class.getDeclaredMethods()) {
            if (!Modifier.isPrivate(m.getModifiers())) {
                open.add(written(m));
                names.add(m.getName());
            }
        }
        for (String due : METHODS) {
            Check.yes("the face has " + due, open.contains(due));
        }
        for (String is : open) {
            Check.yes("of the face is " + is, METHODS.contains(is));
        }
        for (Method m : StoreyShapes.class.getDeclaredMethods()) {
            Check.no("private and named like the face: " + m, Modifier.isPrivate(m.getModifiers()) && names.contains(m.getName()));
        }
    }

    private static String written(Method m) {
        String text = Modifier.toString(m.getModifiers()) + ' ' + m.getReturnType().getSimpleName() + ' ' + m.getName()
                + '(' + joined(m.getParameterTypes()) + ')';
        return m.getExceptionTypes().length == 0 ? text : text + " throws " + joined(m.getExceptionTypes());
    }

    private static String joined(Class<?>[] types) {
        return Arrays.stream(types).map(Class::getSimpleName).collect(Collectors.joining(", "));
    }

    private static void constructors() {
        Constructor<?>[] all = StoreyShapes.class.getDeclaredConstructors();
        Check.same("one constructor", all.length, 1);
        Check.same("that is public", all[0].getModifiers(), Modifier.PUBLIC);
        Check.same("without parameters", all[0].getParameterCount(), 0);
        Check.same("without exceptions", all[0].getExceptionTypes().length, 0);
    }

    private static void fields() {
        int open = 0;
        for (Field f : StoreyShapes.class.getDeclaredFields()) {
            if (!Modifier.isPrivate(f.getModifiers())) {
                open++;
                Check.yes("of the face is " + f, f.toString().equals("public static final int StoreyShapes.NONE"));
            }
            Check.yes("final field " + f, Modifier.isFinal(f.getModifiers()));
        }
        Check.same("one constant", open, 1);
        Check.same("NONE", StoreyShapes.NONE, -1);
    }

    private static void newObject() {
        Subject d = new Subject();
        for (int what = 0; what <= 3; what++) {
            Check.same("1: many " + what, d.many(what), 0);
        }
        Check.same("1: done", d.acts(0), 0);
        Check.same("1: undone", d.acts(1), 0);
        Check.no("1: nothing to undo", d.undo());
        Check.no("1: nothing to do again", d.redo());
        Check.argument("1: no storey", d, () -> d.storeyAt(0, 0));
        Check.argument("1: no type", d, () -> d.typeAt(0, 0));
        Check.argument("1: no wall", d, () -> d.wallAt(0, 0));
        Check.argument("1: no opening", d, () -> d.openingAt(0, 0));
        Check.argument("1: no body", d, () -> d.body(0, 0, 0, 0));
    }

    /** Two drawings that get other acts in turn are what each of them would be alone. */
    private static void objectsShareNothing() {
        StoreyShapes one = new StoreyShapes();
        StoreyShapes other = new StoreyShapes();
        one.storey(0);
        other.storey(-7);
        one.type(10);
        Check.same("1: types of the other", other.many(1), 0);
        other.type(20);
        one.wall(0, 0, 0, 0, 100, 0);
        other.wall(0, 0, 5, 5, 5, 9);
        one.opening(0, 1, 2);
        Check.same("1: openings of the other", other.many(3), 0);
        other.remove(0);
        Check.same("1: level", one.storeyAt(0, 0), 0);
        Check.same("1: thickness", one.typeAt(0, 0), 10);
        Check.same("1: length", one.wallAt(0, 6), 100);
        Check.same("1: acts", one.acts(0), 4);
        Check.yes("1: undo of the other", other.undo());
        Check.same("1: acts stay", one.acts(0), 4);
        Check.no("1: nothing of the other is done again", one.redo());
        Check.same("1: acts of the other", other.acts(0), 3);
        Check.same("1: length of the other", other.wallAt(0, 6), 4);
        Check.same("1: a third is empty", new StoreyShapes().many(0), 0);
    }
}
