import java.lang.reflect.Constructor;
import java.lang.reflect.Field;
import java.lang.reflect.Method;
import java.lang.reflect.Modifier;
import java.util.Set;
import java.util.TreeSet;

/** The public face, and promise 1. */
public final class FaceTest {
    private static final Set<String> FACE = Set.of(
            "int storey(int)", "void level(int,int)", "int type(int)", "void thickness(int,int)",
            "int wall(int,int,int,int,int,int)", "void move(int,int,int)", "void retype(int,int)",
            "void remove(int)", "int opening(int,int,int)", "int copy(int,int)", "boolean undo()",
            "boolean redo()", "int acts(int)", "int many(int)", "long wallAt(int,int)",
            "int openingAt(int,int)", "long storeyAt(int,int)", "long typeAt(int,int)",
            "int body(int,int,int,int)");

    public static void main(String[] args) {
        classAndMembers();
        newObject();
        Check.end("FaceTest");
    }

    private static void classAndMembers() {
        Check.same("the class is public and final", StoreyShapes.class.getModifiers(), Modifier.PUBLIC | Modifier.FINAL);
        Set<String> open = new TreeSet<>();
        Set<String> names = new TreeSet<>();
        for (Method m : StoreyShapes.class.getDeclaredMethods()) {
            if (!Modifier.isPrivate(m.getModifiers())) {
                open.add(written(m));
                names.add(m.getName());
            }
        }
        Check.yes("the methods of the face " + open, open.equals(new TreeSet<>(FACE)));
        for (Method m : StoreyShapes.class.getDeclaredMethods()) {
            Check.no("private and named like the face: " + m, Modifier.isPrivate(m.getModifiers()) && names.contains(m.getName()));
        }
        for (Constructor<?> c : StoreyShapes.class.getDeclaredConstructors()) {
            Check.yes("one public constructor " + c, Modifier.isPublic(c.getModifiers()) && c.getParameterCount() == 0);
        }
        for (Field f : StoreyShapes.class.getDeclaredFields()) {
            Check.yes("field " + f, f.getName().equals("NONE") != Modifier.isPrivate(f.getModifiers()));
            Check.yes("final field " + f, Modifier.isFinal(f.getModifiers()));
        }
        for (Class<?> c : StoreyShapes.class.getDeclaredClasses()) {
            Check.yes("static " + c, Modifier.isStatic(c.getModifiers()) && !Modifier.isPublic(c.getModifiers()));
        }
        Check.same("NONE", StoreyShapes.NONE, -1);
    }

    private static String written(Method m) {
        StringBuilder text = new StringBuilder(m.getReturnType().getName()).append(' ').append(m.getName()).append('(');
        for (Class<?> p : m.getParameterTypes()) {
            text.append(text.charAt(text.length() - 1) == '(' ? "" : ",").append(p.getName());
        }
        return text.append(')').toString();
    }

    private static void newObject() {
        Subject d = new Subject();
        for (int what = 0; what <= 3; what++) {
            Check.same("1: many " + what, d.many(what), 0);
        }
        Check.same("1: done", d.acts(0), 0);
        Check.same("1: undone", d.acts(1), 0);
        Check.no("1: nothing to undo", d.undo());
        Check.no("1: nothing to do again", d.redo());
        Check.argument("1: no storey", d, () -> d.storeyAt(0, 0));
        Check.argument("1: no type", d, () -> d.typeAt(0, 0));
        Check.argument("1: no wall", d, () -> d.wallAt(0, 0));
        Check.argument("1: no opening", d, () -> d.openingAt(0, 0));
        Check.argument("1: no body", d, () -> d.body(0, 0, 0, 0));

        Subject other = new Subject();
        other.storey(0);
        Check.same("1: objects share nothing", d.many(0), 0);
    }
}
