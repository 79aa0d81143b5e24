import java.util.ArrayList;
import java.util.List;
import java.util.Set;

/**
 * A drawing under test. The document promises 512 calls of an object, and tests may want to ask more: then
 * this goes on with a new object on which the same acts, undos and redos were called, the refused ones too.
 */
final class Subject {
    private static final int PROMISED_CALLS = 512;
    private static final Set<String> QUESTIONS =
            Set.of("acts", "many", "wallAt", "openingAt", "storeyAt", "typeAt", "body");

    private record Call(String name, int[] with) {
    }

    private final List<Call> changing = new ArrayList<>();
    private StoreyShapes drawing = new StoreyShapes();
    private int calls = 0;

    /** Another drawing that is like this one, to go on with while this one stays. */
    Subject fork() {
        Subject other = new Subject();
        other.changing.addAll(changing);
        other.renew();
        return other;
    }

    /** How many calls are left of the object that is in use now. */
    int callsLeft() {
        return PROMISED_CALLS - calls;
    }

    /** Calls by name; a boolean answers 1 or 0, a call without an answer 0. */
    long call(String name, int... with) {
        if (calls == PROMISED_CALLS) {
            renew();
        }
        Call call = new Call(name, with);
        if (!QUESTIONS.contains(name)) {
            changing.add(call);
        }
        calls++;
        return answer(call);
    }

    private void renew() {
        if (changing.size() >= PROMISED_CALLS) {
            throw new AssertionError("this test needs an object for more than 512 calls");
        }
        drawing = new StoreyShapes();
        calls = changing.size();
        for (Call call : changing) {
            try {
                answer(call);
            } catch (RuntimeException e) {
                continue; // the test has seen it when it was called first
            }
        }
    }

    private long answer(Call call) {
        StoreyShapes d = drawing;
        int[] a = call.with;
        switch (call.name) {
            case "storey": return d.storey(a[0]);
            case "level": d.level(a[0], a[1]); return 0;
            case "type": return d.type(a[0]);
            case "thickness": d.thickness(a[0], a[1]); return 0;
            case "wall": return d.wall(a[0], a[1], a[2], a[3], a[4], a[5]);
            case "move": d.move(a[0], a[1], a[2]); return 0;
            case "retype": d.retype(a[0], a[1]); return 0;
            case "remove": d.remove(a[0]); return 0;
            case "opening": return d.opening(a[0], a[1], a[2]);
            case "copy": return d.copy(a[0], a[1]);
            case "undo": return d.undo() ? 1 : 0;
            case "redo": return d.redo() ? 1 : 0;
            case "acts": return d.acts(a[0]);
            case "many": return d.many(a[0]);
            case "wallAt": return d.wallAt(a[0], a[1]);
            case "openingAt": return d.openingAt(a[0], a[1]);
            case "storeyAt": return d.storeyAt(a[0], a[1]);
            case "typeAt": return d.typeAt(a[0], a[1]);
            case "body": return d.body(a[0], a[1], a[2], a[3]);
            default: throw new AssertionError("no call " + call.name);
        }
    }

    int storey(int level) {
        return (int) call("storey", level);
    }

    void level(int storey, int level) {
        call("level", storey, level);
    }

    int type(int thickness) {
        return (int) call("type", thickness);
    }

    void thickness(int type, int thickness) {
        call("thickness", type, thickness);
    }

    int wall(int storey, int type, int x0, int y0, int x1, int y1) {
        return (int) call("wall", storey, type, x0, y0, x1, y1);
    }

    void move(int wall, int dx, int dy) {
        call("move", wall, dx, dy);
    }

    void retype(int wall, int type) {
        call("retype", wall, type);
    }

    void remove(int wall) {
        call("remove", wall);
    }

    int opening(int wall, int at, int width) {
        return (int) call("opening", wall, at, width);
    }

    int copy(int from, int to) {
        return (int) call("copy", from, to);
    }

    boolean undo() {
        return call("undo") == 1;
    }

    boolean redo() {
        return call("redo") == 1;
    }

    int acts(int what) {
        return (int) call("acts", what);
    }

    int many(int what) {
        return (int) call("many", what);
    }

    long wallAt(int wall, int what) {
        return call("wallAt", wall, what);
    }

    int openingAt(int opening, int what) {
        return (int) call("openingAt", opening, what);
    }

    long storeyAt(int storey, int what) {
        return call("storeyAt", storey, what);
    }

    long typeAt(int type, int what) {
        return call("typeAt", type, what);
    }

    int body(int storey, int x, int y, int k) {
        return (int) call("body", storey, x, y, k);
    }
}
