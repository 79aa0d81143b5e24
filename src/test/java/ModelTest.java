import java.util.ArrayList;
import java.util.Arrays;
import java.util.List;

/**
 * Long runs of calls against a second program that holds a whole copy of the drawing for each act.
 * The runs come from a counter that is written here, so they are the same each time.
 */
public final class ModelTest {
    private static final int RUNS = 2000;
    private static final String[] ACTS =
            {"storey", "level", "type", "thickness", "wall", "move", "retype", "remove", "opening", "copy"};
    private static final int ARGUMENT = -777001;
    private static final int STATE = -777002;

    private static long seed;

    private static int below(int bound) {
        seed = seed * 6364136223846793005L + 1442695040888963407L;
        return (int) ((seed >>> 33) % bound);
    }

    private static int from(int low, int high) {
        return low + below(high - low + 1);
    }

    /** Mostly a number that fits, at times one that is just or far out of bounds. */
    private static int about(int low, int high) {
        switch (below(40)) {
            case 0: return low - 1;
            case 1: return high + 1;
            case 2: return below(2) == 0 ? Integer.MIN_VALUE : Integer.MAX_VALUE;
            case 3: return low;
            case 4: return high;
            default: return high < low ? low : from(low, high);
        }
    }

    private record Wall(int storey, int type, int x0, int y0, int x1, int y1, boolean there) {
        boolean flat() {
            return y0 == y1;
        }

        int length() {
            return Math.abs(x0 - x1) + Math.abs(y0 - y1);
        }

        boolean ends(int x, int y) {
            return (x == x0 && y == y0) || (x == x1 && y == y1);
        }
    }

    private record Opening(int wall, int at, int width) {
    }

    private static final class Drawing {
        final List<Integer> levels = new ArrayList<>();
        final List<Integer> thicknesses = new ArrayList<>();
        final List<Wall> walls = new ArrayList<>();
        final List<Opening> openings = new ArrayList<>();

        Drawing copied() {
            Drawing d = new Drawing();
            d.levels.addAll(levels);
            d.thicknesses.addAll(thicknesses);
            d.walls.addAll(walls);
            d.openings.addAll(openings);
            return d;
        }

        boolean noStorey(int s) {
            return s < 0 || s >= levels.size();
        }

        boolean noType(int t) {
            return t < 0 || t >= thicknesses.size();
        }

        boolean noWall(int w) {
            return w < 0 || w >= walls.size() || !walls.get(w).there();
        }

        int height(int s) {
            return s == levels.size() - 1 ? 300 : levels.get(s + 1) - levels.get(s);
        }

        long net(int w) {
            Wall a = walls.get(w);
            return a.length() + join(w, a.x0(), a.y0()) + join(w, a.x1(), a.y1());
        }

        int join(int w, int x, int y) {
            Wall a = walls.get(w);
            for (int v = 0; v < walls.size(); v++) {
                Wall b = walls.get(v);
                if (b.there() && b.storey() == a.storey() && b.flat() != a.flat() && b.ends(x, y)) {
                    return thicknesses.get(b.type()) / 2 * (v < w ? -1 : 1);
                }
            }
            return 0;
        }

        long area(int w) {
            int height = height(walls.get(w).storey());
            long area = net(w) * height;
            for (Opening o : openings) {
                area -= o.wall() == w ? o.width() * Math.min(200, height) : 0;
            }
            return area;
        }

        boolean body(Wall w, int x, int y) {
            int half = thicknesses.get(w.type()) / 2;
            int along = w.flat() ? x : y;
            int across = w.flat() ? y - w.y0() : x - w.x0();
            int one = w.flat() ? w.x0() : w.y0();
            int other = w.flat() ? w.x1() : w.y1();
            return Math.abs(across) <= half && (along - one) * (along - other) <= 0;
        }
    }

    private static final class Model {
        final List<Drawing> before = new ArrayList<>();
        final List<Drawing> after = new ArrayList<>();
        Drawing now = new Drawing();

        /** The answer of an act, which works on next. */
        int act(int kind, int[] a) {
            Drawing next = now.copied();
            boolean full = before.size() == 200;
            int answer = new Act(next, a, full).answer(kind);
            if (answer != ARGUMENT && answer != STATE) {
                before.add(now);
                after.clear();
                now = next;
            }
            return answer;
        }

        boolean undo() {
            if (before.isEmpty()) {
                return false;
            }
            after.add(now);
            now = before.remove(before.size() - 1);
            return true;
        }

        boolean redo() {
            if (after.isEmpty()) {
                return false;
            }
            before.add(now);
            now = after.remove(after.size() - 1);
            return true;
        }
    }

    private record Act(Drawing d, int[] a, boolean full) {
        int answer(int kind) {
            switch (kind) {
                case 0: return storey();
                case 1: return level();
                case 2: return type();
                case 3: return thickness();
                case 4: return wall();
                case 5: return move();
                case 6: return retype();
                case 7: return remove();
                case 8: return opening();
                default: return copy();
            }
        }

        int storey() {
            int n = d.levels.size();
            if (a[0] < -1000 || a[0] > 10000 || (n > 0 && a[0] <= d.levels.get(n - 1))) {
                return ARGUMENT;
            }
            if (n == 6 || full) {
                return STATE;
            }
            d.levels.add(a[0]);
            return n;
        }

        int level() {
            int n = d.levels.size();
            if (d.noStorey(a[0]) || a[1] < -1000 || a[1] > 10000) {
                return ARGUMENT;
            }
            d.levels.set(a[0], a[1]);
            for (int s = 1; s < n; s++) {
                if (d.levels.get(s) <= d.levels.get(s - 1)) {
                    return ARGUMENT;
                }
            }
            return full ? STATE : 0;
        }

        boolean oddThickness(int t) {
            return t < 2 || t > 100 || (t & 1) == 1;
        }

        int type() {
            if (oddThickness(a[0])) {
                return ARGUMENT;
            }
            if (d.thicknesses.size() == 8 || full) {
                return STATE;
            }
            d.thicknesses.add(a[0]);
            return d.thicknesses.size() - 1;
        }

        int thickness() {
            if (d.noType(a[0]) || oddThickness(a[1])) {
                return ARGUMENT;
            }
            d.thicknesses.set(a[0], a[1]);
            return full ? STATE : 0;
        }

        int wall() {
            boolean out = d.noStorey(a[0]) || d.noType(a[1]);
            for (int i = 2; i < 6; i++) {
                out |= a[i] < -1000 || a[i] > 1000;
            }
            if (out || (a[2] != a[4] && a[3] != a[5]) || (a[2] == a[4] && a[3] == a[5])) {
                return ARGUMENT;
            }
            if (d.walls.size() == 40 || full) {
                return STATE;
            }
            d.walls.add(new Wall(a[0], a[1], a[2], a[3], a[4], a[5], true));
            return d.walls.size() - 1;
        }

        int move() {
            if (d.noWall(a[0])) {
                return ARGUMENT;
            }
            Wall w = d.walls.get(a[0]);
            long[] to = {(long) w.x0() + a[1], (long) w.y0() + a[2], (long) w.x1() + a[1], (long) w.y1() + a[2]};
            for (long c : to) {
                if (Math.abs(c) > 1000) {
                    return ARGUMENT;
                }
            }
            d.walls.set(a[0], new Wall(w.storey(), w.type(), (int) to[0], (int) to[1], (int) to[2], (int) to[3], true));
            return full ? STATE : 0;
        }

        int retype() {
            if (d.noWall(a[0]) || d.noType(a[1])) {
                return ARGUMENT;
            }
            Wall w = d.walls.get(a[0]);
            d.walls.set(a[0], new Wall(w.storey(), a[1], w.x0(), w.y0(), w.x1(), w.y1(), true));
            return full ? STATE : 0;
        }

        int remove() {
            if (d.noWall(a[0])) {
                return ARGUMENT;
            }
            Wall w = d.walls.get(a[0]);
            d.walls.set(a[0], new Wall(w.storey(), w.type(), w.x0(), w.y0(), w.x1(), w.y1(), false));
            return full ? STATE : 0;
        }

        int opening() {
            if (d.noWall(a[0]) || a[1] < 0 || a[2] < 1 || (long) a[1] + a[2] > d.walls.get(a[0]).length()) {
                return ARGUMENT;
            }
            for (Opening o : d.openings) {
                if (o.wall() == a[0] && !(o.at() + o.width() <= a[1] || a[1] + a[2] <= o.at())) {
                    return STATE;
                }
            }
            d.openings.add(new Opening(a[0], a[1], a[2]));
            return full || d.openings.size() > 60 ? STATE : d.openings.size() - 1;
        }

        int copy() {
            if (d.noStorey(a[0]) || d.noStorey(a[1]) || a[0] == a[1]) {
                return ARGUMENT;
            }
            int walls = d.walls.size();
            int openings = d.openings.size();
            for (int i = 0; i < walls; i++) {
                Wall w = d.walls.get(i);
                if (w.there() && w.storey() == a[0]) {
                    d.walls.add(new Wall(a[1], w.type(), w.x0(), w.y0(), w.x1(), w.y1(), true));
                    for (int j = 0; j < openings; j++) {
                        Opening o = d.openings.get(j);
                        if (o.wall() == i) {
                            d.openings.add(new Opening(d.walls.size() - 1, o.at(), o.width()));
                        }
                    }
                }
            }
            return full || d.walls.size() > 40 || d.openings.size() > 60 ? STATE : d.walls.size() - walls;
        }
    }

    private static long called(Subject x, String name, int... a) {
        try {
            return x.call(name, a);
        } catch (IllegalArgumentException e) {
            return ARGUMENT;
        } catch (IllegalStateException e) {
            return STATE;
        }
    }

    /** A few places, so that walls meet often. */
    private static int grid() {
        return below(30) == 0 ? about(-1000, 1000) : from(-2, 2) * 30;
    }

    private static int[] arguments(Drawing d, int kind) {
        int storey = about(0, d.levels.size() - 1);
        int type = about(0, d.thicknesses.size() - 1);
        int wall = about(0, d.walls.size() - 1);
        switch (kind) {
            case 0: return new int[] {d.levels.isEmpty() ? about(-1000, 0) : d.levels.get(d.levels.size() - 1) + from(0, 400)};
            case 1: return new int[] {storey, d.noStorey(storey) ? 0 : d.levels.get(storey) + from(-300, 300)};
            case 2: return new int[] {about(1, 50) * (below(20) == 0 ? 1 : 2)};
            case 3: return new int[] {type, about(1, 50) * (below(20) == 0 ? 1 : 2)};
            case 4:
                int x = grid();
                int y = grid();
                boolean flat = below(2) == 0;
                boolean aslant = below(30) == 0;
                return new int[] {storey, type, x, y, flat || aslant ? grid() : x, flat && !aslant ? y : grid()};
            case 5: return new int[] {wall, grid(), grid()};
            case 6: return new int[] {wall, type};
            case 7: return new int[] {wall};
            case 8: return new int[] {wall, about(0, 60), about(1, 20)};
            default: return new int[] {storey, about(0, d.levels.size() - 1)};
        }
    }

    private static long storeyDue(Drawing d, int s, int what) {
        if (d.noStorey(s) || what < 0 || what > 3) {
            return ARGUMENT;
        }
        long many = 0;
        long area = 0;
        for (int w = 0; w < d.walls.size(); w++) {
            if (d.walls.get(w).there() && d.walls.get(w).storey() == s) {
                many++;
                area += d.area(w);
            }
        }
        return new long[] {d.levels.get(s), d.height(s), many, area}[what];
    }

    private static long typeDue(Drawing d, int t, int what) {
        if (d.noType(t) || what < 0 || what > 2) {
            return ARGUMENT;
        }
        long many = 0;
        long net = 0;
        for (int w = 0; w < d.walls.size(); w++) {
            if (d.walls.get(w).there() && d.walls.get(w).type() == t) {
                many++;
                net += d.net(w);
            }
        }
        return new long[] {d.thicknesses.get(t), many, net}[what];
    }

    private static long wallDue(Drawing d, int w, int what) {
        if (d.noWall(w) || what < 0 || what > 9) {
            return ARGUMENT;
        }
        Wall a = d.walls.get(w);
        long openings = d.openings.stream().filter(o -> o.wall() == w).count();
        return new long[] {a.storey(), a.type(), a.x0(), a.y0(), a.x1(), a.y1(), a.length(), d.net(w), d.area(w), openings}[what];
    }

    private static long openingDue(Drawing d, int o, int what) {
        if (o < 0 || o >= d.openings.size() || d.noWall(d.openings.get(o).wall()) || what < 0 || what > 2) {
            return ARGUMENT;
        }
        Opening a = d.openings.get(o);
        return new long[] {a.wall(), a.at(), a.width()}[what];
    }

    private static long actsDue(Model m, int what) {
        return what == 0 ? m.before.size() : what == 1 ? m.after.size() : ARGUMENT;
    }

    private static long manyDue(Drawing d, int what) {
        switch (what) {
            case 0: return d.levels.size();
            case 1: return d.thicknesses.size();
            case 2: return d.walls.size();
            case 3: return d.openings.size();
            default: return ARGUMENT;
        }
    }

    private static long bodyDue(Drawing d, int s, int x, int y, int k) {
        if (d.noStorey(s) || k < 0 || Math.abs((long) x) > 1000 || Math.abs((long) y) > 1000) {
            return ARGUMENT;
        }
        int seen = 0;
        for (int w = 0; w < d.walls.size(); w++) {
            Wall a = d.walls.get(w);
            if (a.there() && a.storey() == s && d.body(a, x, y) && seen++ == k) {
                return w;
            }
        }
        return StoreyShapes.NONE;
    }

    private static long due(Model m, String name, int[] a) {
        switch (name) {
            case "acts": return actsDue(m, a[0]);
            case "many": return manyDue(m.now, a[0]);
            case "storeyAt": return storeyDue(m.now, a[0], a[1]);
            case "typeAt": return typeDue(m.now, a[0], a[1]);
            case "wallAt": return wallDue(m.now, a[0], a[1]);
            case "openingAt": return openingDue(m.now, a[0], a[1]);
            default: return bodyDue(m.now, a[0], a[1], a[2], a[3]);
        }
    }

    private static void compare(String where, Subject x, Model m, String name, int... a) {
        Check.same(where + name + Arrays.toString(a), called(x, name, a), due(m, name, a));
    }

    private static void compareOne(String where, Subject x, Model m) {
        Drawing d = m.now;
        switch (below(7)) {
            case 0:
                compare(where, x, m, "storeyAt", about(0, d.levels.size() - 1), about(0, 3));
                break;
            case 1:
                compare(where, x, m, "typeAt", about(0, d.thicknesses.size() - 1), about(0, 2));
                break;
            case 2:
                compare(where, x, m, "wallAt", about(0, d.walls.size() - 1), about(0, 9));
                break;
            case 3:
                compare(where, x, m, "openingAt", about(0, d.openings.size() - 1), about(0, 2));
                break;
            case 4:
                compare(where, x, m, "acts", about(0, 1));
                break;
            case 5:
                compare(where, x, m, "many", about(0, 3));
                break;
            default:
                compare(where, x, m, "body", about(0, d.levels.size() - 1), about(-80, 80), about(-80, 80), about(0, 3));
                break;
        }
    }

    private static void compareRows(String where, Subject x, Model m, String name, int many, int mostWhat) {
        for (int n = 0; n < many; n++) {
            for (int what = 0; what <= mostWhat; what++) {
                compare(where, x, m, name, n, what);
            }
        }
    }

    private static void compareAll(String where, Subject x, Model m) {
        for (int what = 0; what <= 3; what++) {
            compare(where, x, m, "many", what);
        }
        compare(where, x, m, "acts", 0);
        compare(where, x, m, "acts", 1);
        compareRows(where, x, m, "storeyAt", m.now.levels.size(), 3);
        compareRows(where, x, m, "typeAt", m.now.thicknesses.size(), 2);
        compareRows(where, x, m, "wallAt", m.now.walls.size(), 9);
        compareRows(where, x, m, "openingAt", m.now.openings.size(), 2);
    }

    private static void step(String where, Subject x, Model m, int undos, int redos, boolean starting) {
        int dice = below(100);
        if (dice < undos) {
            Check.same(where + "undo", called(x, "undo"), m.undo() ? 1 : 0);
        } else if (dice < undos + redos) {
            Check.same(where + "redo", called(x, "redo"), m.redo() ? 1 : 0);
        } else if (dice < 80) {
            int kind = starting ? below(2) * 2 : below(4) > 0 ? from(4, 9) : below(4);
            if (kind == 7 && below(3) > 0) {
                kind = 5;
            }
            int[] a = arguments(m.now, kind);
            Check.same(where + ACTS[kind] + Arrays.toString(a), called(x, ACTS[kind], a), m.act(kind, a));
        } else {
            compareOne(where, x, m);
        }
    }

    /**
     * One object for all the calls that are promised of it, the 512th too.
     * How often of a hundred calls an act is undone differs by run, so that some runs come to 200 acts
     * and some go far back and forth.
     */
    private static void run(int run) {
        Subject x = new Subject();
        Model m = new Model();
        String where = "run " + run + ": ";
        for (int left = x.callsLeft(); left > 0; left = x.callsLeft()) {
            int often = run % 4 * 8;
            int phase = run % 4 == 1 ? left / 16 % 6 : 0;
            int undos = phase == 5 ? 90 : often;
            int redos = phase == 5 ? 5 : phase == 4 ? 70 : often;
            step(where + (512 - left) + ": ", x, m, undos, redos, left > 504);
        }
        compareAll(where, x, m);
    }

    public static void main(String[] args) {
        for (int run = 0; run < RUNS; run++) {
            seed = run * 1000003L + 17;
            run(run);
        }
        Check.end("ModelTest");
    }
}
