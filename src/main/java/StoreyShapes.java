/** A drawing of storeys, types of walls, walls and openings, made by acts that can be undone and done again. */
public final class StoreyShapes {
    public static final int NONE = -1;

    private static final int MOST_STOREYS = 6;
    private static final int MOST_TYPES = 8;
    private static final int MOST_WALLS = 40;
    private static final int MOST_OPENINGS = 60;
    private static final int MOST_ACTS = 200;

    private static final int LEAST_LEVEL = -1000;
    private static final int MOST_LEVEL = 10000;
    private static final int LEAST_THICKNESS = 2;
    private static final int MOST_THICKNESS = 100;
    private static final int MOST_COORDINATE = 1000;
    private static final int TOP_HEIGHT = 300;
    private static final int MOST_OPENING_HEIGHT = 200;

    // What an act changes; the kinds that bring things only move a count, see step.
    private static final int STOREY_COMES = 0;
    private static final int TYPE_COMES = 1;
    private static final int WALLS_COME = 2;
    private static final int LEVEL_CHANGES = 3;
    private static final int THICKNESS_CHANGES = 4;
    private static final int TYPE_CHANGES = 5;
    private static final int WALL_MOVES = 6;
    private static final int WALL_GOES = 7;

    private static final int FORWARD = 1;
    private static final int BACKWARD = -1;

    private final Storeys storeys;
    private final Types types;
    private final Walls walls;
    private final Openings openings;
    private final History history;

    public StoreyShapes() {
        storeys = new Storeys();
        types = new Types();
        walls = new Walls();
        openings = new Openings();
        history = new History();
    }

    // ---- acts

    public int storey(int level) throws IllegalArgumentException, IllegalStateException {
        int number = storeys.count;
        checkLevel(number, level);
        if (number >= MOST_STOREYS) {
            throw new IllegalStateException("there are 6 storeys");
        }
        checkRoomForAct();
        storeys.levels[number] = level;
        perform(STOREY_COMES, number, 0, 0);
        return number;
    }

    public void level(int storey, int level) throws IllegalArgumentException, IllegalStateException {
        checkStorey(storey);
        checkLevel(storey, level);
        checkRoomForAct();
        perform(LEVEL_CHANGES, storey, level, 0);
    }

    public int type(int thickness) throws IllegalArgumentException, IllegalStateException {
        int number = types.count;
        checkThickness(thickness);
        if (number >= MOST_TYPES) {
            throw new IllegalStateException("there are 8 types");
        }
        checkRoomForAct();
        types.thicknesses[number] = thickness;
        perform(TYPE_COMES, number, 0, 0);
        return number;
    }

    public void thickness(int type, int thickness) throws IllegalArgumentException, IllegalStateException {
        checkType(type);
        checkThickness(thickness);
        checkRoomForAct();
        perform(THICKNESS_CHANGES, type, thickness, 0);
    }

    public int wall(int storey, int type, int x0, int y0, int x1, int y1)
            throws IllegalArgumentException, IllegalStateException {
        checkStorey(storey);
        checkType(type);
        checkPlace(x0, y0);
        checkPlace(x1, y1);
        if ((x0 == x1) == (y0 == y1)) {
            throw new IllegalArgumentException("a wall goes along x or along y");
        }
        int number = walls.count;
        if (number >= MOST_WALLS) {
            throw new IllegalStateException("there are 40 walls");
        }
        checkRoomForAct();
        walls.writeNext(storey, type, x0, y0, x1, y1);
        perform(WALLS_COME, number, 1, 0);
        return number;
    }

    public void move(int wall, int dx, int dy) throws IllegalArgumentException, IllegalStateException {
        checkWall(wall);
        checkPlace((long) walls.x0[wall] + dx, (long) walls.y0[wall] + dy);
        checkPlace((long) walls.x1[wall] + dx, (long) walls.y1[wall] + dy);
        checkRoomForAct();
        perform(WALL_MOVES, wall, dx, dy);
    }

    public void retype(int wall, int type) throws IllegalArgumentException, IllegalStateException {
        checkWall(wall);
        checkType(type);
        checkRoomForAct();
        perform(TYPE_CHANGES, wall, type, 0);
    }

    public void remove(int wall) throws IllegalArgumentException, IllegalStateException {
        checkWall(wall);
        checkRoomForAct();
        perform(WALL_GOES, wall, 0, 0);
    }

    public int opening(int wall, int at, int width) throws IllegalArgumentException, IllegalStateException {
        checkWall(wall);
        if (at < 0 || width < 1 || (long) at + width > walls.length(wall)) {
            throw new IllegalArgumentException("an opening lies within its wall");
        }
        int number = openings.count;
        if (openings.overlap(wall, at, width)) {
            throw new IllegalStateException("openings of a wall do not overlap");
        }
        if (number >= MOST_OPENINGS) {
            throw new IllegalStateException("there are 60 openings");
        }
        checkRoomForAct();
        openings.write(number, wall, at, width);
        perform(WALLS_COME, wall, 0, 1);
        return number;
    }

    public int copy(int from, int to) throws IllegalArgumentException, IllegalStateException {
        checkStorey(from);
        checkStorey(to);
        if (from == to) {
            throw new IllegalArgumentException("a storey is not copied onto itself");
        }
        int moreWalls = walls.manyOn(from);
        int moreOpenings = openingsOn(from);
        if (walls.count + moreWalls > MOST_WALLS) {
            throw new IllegalStateException("there would be more than 40 walls");
        }
        if (openings.count + moreOpenings > MOST_OPENINGS) {
            throw new IllegalStateException("there would be more than 60 openings");
        }
        checkRoomForAct();
        writeCopies(from, to);
        perform(WALLS_COME, to, moreWalls, moreOpenings);
        return moreWalls;
    }

    // ---- undoing

    public boolean undo() {
        if (history.done <= 0) {
            return false;
        }
        history.done--;
        step(history.done, BACKWARD);
        return true;
    }

    public boolean redo() {
        if (history.done >= history.held) {
            return false;
        }
        goForward();
        return true;
    }

    public int acts(int what) throws IllegalArgumentException {
        switch (what) {
            case 0:
                return history.done;
            case 1:
                return history.held - history.done;
            default:
                throw new IllegalArgumentException("acts are done (0) or undone (1)");
        }
    }

    // ---- what is told

    public int many(int what) throws IllegalArgumentException {
        switch (what) {
            case 0:
                return storeys.count;
            case 1:
                return types.count;
            case 2:
                return walls.count;
            case 3:
                return openings.count;
            default:
                throw new IllegalArgumentException("what is counted is 0 .. 3");
        }
    }

    public long wallAt(int wall, int what) throws IllegalArgumentException {
        checkWall(wall);
        switch (what) {
            case 0:
                return walls.storeys[wall];
            case 1:
                return walls.types[wall];
            case 2:
                return walls.x0[wall];
            case 3:
                return walls.y0[wall];
            case 4:
                return walls.x1[wall];
            case 5:
                return walls.y1[wall];
            case 6:
                return walls.length(wall);
            case 7:
                return netLength(wall);
            case 8:
                return area(wall);
            case 9:
                return openings.manyOf(wall);
            default:
                throw new IllegalArgumentException("what is told of a wall is 0 .. 9");
        }
    }

    public int openingAt(int opening, int what) throws IllegalArgumentException {
        if (!openings.has(opening) || !walls.isThere(openings.walls[opening])) {
            throw new IllegalArgumentException("there is no such opening");
        }
        switch (what) {
            case 0:
                return openings.walls[opening];
            case 1:
                return openings.starts[opening];
            case 2:
                return openings.widths[opening];
            default:
                throw new IllegalArgumentException("what is told of an opening is 0 .. 2");
        }
    }

    public long storeyAt(int storey, int what) throws IllegalArgumentException {
        checkStorey(storey);
        switch (what) {
            case 0:
                return storeys.levels[storey];
            case 1:
                return storeys.height(storey);
            case 2:
                return walls.manyOn(storey);
            case 3:
                return areaOf(storey);
            default:
                throw new IllegalArgumentException("what is told of a storey is 0 .. 3");
        }
    }

    public long typeAt(int type, int what) throws IllegalArgumentException {
        checkType(type);
        switch (what) {
            case 0:
                return types.thicknesses[type];
            case 1:
                return walls.manyWith(type);
            case 2:
                return netLengthWith(type);
            default:
                throw new IllegalArgumentException("what is told of a type is 0 .. 2");
        }
    }

    public int body(int storey, int x, int y, int k) throws IllegalArgumentException {
        checkStorey(storey);
        checkPlace(x, y);
        if (k < 0) {
            throw new IllegalArgumentException("walls are counted from 0");
        }
        int left = k;
        for (int wall = 0; wall < walls.count; wall++) {
            if (walls.isOn(wall, storey) && covers(wall, x, y)) {
                if (left == 0) {
                    return wall;
                }
                left--;
            }
        }
        return NONE;
    }

    // ---- what is refused

    private void checkStorey(int storey) {
        if (!storeys.has(storey)) {
            throw new IllegalArgumentException("there is no such storey");
        }
    }

    private void checkLevel(int storey, int level) {
        if (level < LEAST_LEVEL || level > MOST_LEVEL) {
            throw new IllegalArgumentException("a level is -1000 .. 10000");
        }
        if (!storeys.isBetweenNeighbours(storey, level)) {
            throw new IllegalArgumentException("a storey is above the one before and below the next");
        }
    }

    private void checkType(int type) {
        if (!types.has(type)) {
            throw new IllegalArgumentException("there is no such type");
        }
    }

    private static void checkThickness(int thickness) {
        if (thickness < LEAST_THICKNESS || thickness > MOST_THICKNESS || thickness % 2 != 0) {
            throw new IllegalArgumentException("a thickness is an even number 2 .. 100");
        }
    }

    private void checkWall(int wall) {
        if (!walls.isThere(wall)) {
            throw new IllegalArgumentException("there is no such wall");
        }
    }

    // Takes longs, so that the sums of a move cannot wrap round.
    private static void checkPlace(long x, long y) {
        if (x < -MOST_COORDINATE || x > MOST_COORDINATE || y < -MOST_COORDINATE || y > MOST_COORDINATE) {
            throw new IllegalArgumentException("a coordinate is -1000 .. 1000");
        }
    }

    private void checkRoomForAct() {
        if (history.done >= MOST_ACTS) {
            throw new IllegalStateException("200 acts are held");
        }
    }

    // ---- how acts are done and undone

    private void perform(int kind, int target, int first, int second) {
        history.write(kind, target, first, second);
        goForward();
    }

    private void goForward() {
        step(history.done, FORWARD);
        history.done++;
    }

    // What came by an act keeps its row behind the count while the act is undone: no act can write there
    // without dropping the undone ones, so doing it again only needs the count.
    private void step(int act, int way) {
        int target = history.targets[act];
        int first = history.firsts[act];
        int second = history.seconds[act];
        switch (history.kinds[act]) {
            case STOREY_COMES:
                storeys.count += way;
                break;
            case TYPE_COMES:
                types.count += way;
                break;
            case WALLS_COME:
                walls.count += way * first;
                openings.count += way * second;
                break;
            case WALL_MOVES:
                walls.shift(target, way * first, way * second);
                break;
            case WALL_GOES:
                walls.gone[target] = way == FORWARD;
                break;
            default:
                history.firsts[act] = exchange(history.kinds[act], target, first);
                break;
        }
    }

    // Both ways are the same here: the act holds the value that the drawing does not have now.
    private int exchange(int kind, int target, int value) {
        int before;
        if (kind == LEVEL_CHANGES) {
            before = storeys.levels[target];
            storeys.levels[target] = value;
        } else if (kind == THICKNESS_CHANGES) {
            before = types.thicknesses[target];
            types.thicknesses[target] = value;
        } else {
            before = walls.types[target];
            walls.types[target] = value;
        }
        return before;
    }

    // The copies stand behind the counts until the act moves these; the caller has tested that there is room.
    private void writeCopies(int from, int to) {
        int nextWall = walls.count;
        int nextOpening = openings.count;
        for (int wall = 0; wall < walls.count; wall++) {
            if (walls.isOn(wall, from)) {
                walls.writeCopy(wall, nextWall, to);
                nextOpening = openings.writeCopies(wall, nextWall, nextOpening);
                nextWall++;
            }
        }
    }

    // ---- what is measured

    private int openingsOn(int storey) {
        int many = 0;
        for (int opening = 0; opening < openings.count; opening++) {
            if (walls.isOn(openings.walls[opening], storey)) {
                many++;
            }
        }
        return many;
    }

    private long netLength(int wall) {
        int before = walls.leastAcross(wall, walls.x0[wall], walls.y0[wall]);
        int behind = walls.leastAcross(wall, walls.x1[wall], walls.y1[wall]);
        return (long) walls.length(wall) + gainByJoin(wall, before) + gainByJoin(wall, behind);
    }

    // How much longer the wall is at the end where it meets the other one; less than 0 if it is shorter.
    private int gainByJoin(int wall, int other) {
        if (other == NONE) {
            return 0;
        }
        int half = halfThickness(other);
        return other < wall ? -half : half;
    }

    private int halfThickness(int wall) {
        return types.thicknesses[walls.types[wall]] / 2;
    }

    private long area(int wall) {
        int height = storeys.height(walls.storeys[wall]);
        int openingHeight = Math.min(height, MOST_OPENING_HEIGHT);
        return netLength(wall) * height - (long) openings.widthOf(wall) * openingHeight;
    }

    private long areaOf(int storey) {
        long sum = 0;
        for (int wall = 0; wall < walls.count; wall++) {
            if (walls.isOn(wall, storey)) {
                sum += area(wall);
            }
        }
        return sum;
    }

    private long netLengthWith(int type) {
        long sum = 0;
        for (int wall = 0; wall < walls.count; wall++) {
            if (walls.isWith(wall, type)) {
                sum += netLength(wall);
            }
        }
        return sum;
    }

    private boolean covers(int wall, int x, int y) {
        int half = halfThickness(wall);
        int aside = walls.goesAlongX(wall) ? 0 : half;
        int upward = walls.goesAlongX(wall) ? half : 0;
        return x >= Math.min(walls.x0[wall], walls.x1[wall]) - aside
                && x <= Math.max(walls.x0[wall], walls.x1[wall]) + aside
                && y >= Math.min(walls.y0[wall], walls.y1[wall]) - upward
                && y <= Math.max(walls.y0[wall], walls.y1[wall]) + upward;
    }

    // ---- the rows: of each, those below the count are in the drawing

    private static final class Storeys {
        final int[] levels = new int[MOST_STOREYS];
        int count = 0;

        boolean has(int storey) {
            return storey >= 0 && storey < count;
        }

        // Also asked of the storey that comes next, which has none above it.
        boolean isBetweenNeighbours(int storey, int level) {
            return (storey == 0 || level > levels[storey - 1])
                    && (storey + 1 >= count || level < levels[storey + 1]);
        }

        int height(int storey) {
            return storey + 1 < count ? levels[storey + 1] - levels[storey] : TOP_HEIGHT;
        }
    }

    private static final class Types {
        final int[] thicknesses = new int[MOST_TYPES];
        int count = 0;

        boolean has(int type) {
            return type >= 0 && type < count;
        }
    }

    private static final class Walls {
        final int[] storeys = new int[MOST_WALLS];
        final int[] types = new int[MOST_WALLS];
        final int[] x0 = new int[MOST_WALLS];
        final int[] y0 = new int[MOST_WALLS];
        final int[] x1 = new int[MOST_WALLS];
        final int[] y1 = new int[MOST_WALLS];
        final boolean[] gone = new boolean[MOST_WALLS];
        int count = 0;

        boolean isThere(int wall) {
            return wall >= 0 && wall < count && !gone[wall];
        }

        boolean isOn(int wall, int storey) {
            return isThere(wall) && storeys[wall] == storey;
        }

        boolean isWith(int wall, int type) {
            return isThere(wall) && types[wall] == type;
        }

        boolean goesAlongX(int wall) {
            return y0[wall] == y1[wall];
        }

        boolean hasEndAt(int wall, int x, int y) {
            return x0[wall] == x && y0[wall] == y || x1[wall] == x && y1[wall] == y;
        }

        int length(int wall) {
            return Math.abs(x1[wall] - x0[wall]) + Math.abs(y1[wall] - y0[wall]);
        }

        int manyOn(int storey) {
            int many = 0;
            for (int wall = 0; wall < count; wall++) {
                if (isOn(wall, storey)) {
                    many++;
                }
            }
            return many;
        }

        int manyWith(int type) {
            int many = 0;
            for (int wall = 0; wall < count; wall++) {
                if (isWith(wall, type)) {
                    many++;
                }
            }
            return many;
        }

        // The wall itself never counts: it does not go across its own way.
        int leastAcross(int wall, int x, int y) {
            for (int other = 0; other < count; other++) {
                if (isOn(other, storeys[wall]) && goesAlongX(other) != goesAlongX(wall) && hasEndAt(other, x, y)) {
                    return other;
                }
            }
            return NONE;
        }

        void shift(int wall, int dx, int dy) {
            x0[wall] += dx;
            y0[wall] += dy;
            x1[wall] += dx;
            y1[wall] += dy;
        }

        void writeNext(int storey, int type, int fromX, int fromY, int toX, int toY) {
            storeys[count] = storey;
            types[count] = type;
            x0[count] = fromX;
            y0[count] = fromY;
            x1[count] = toX;
            y1[count] = toY;
            gone[count] = false;
        }

        void writeCopy(int wall, int row, int storey) {
            storeys[row] = storey;
            types[row] = types[wall];
            x0[row] = x0[wall];
            y0[row] = y0[wall];
            x1[row] = x1[wall];
            y1[row] = y1[wall];
            gone[row] = false;
        }
    }

    private static final class Openings {
        final int[] walls = new int[MOST_OPENINGS];
        final int[] starts = new int[MOST_OPENINGS];
        final int[] widths = new int[MOST_OPENINGS];
        int count = 0;

        boolean has(int opening) {
            return opening >= 0 && opening < count;
        }

        int manyOf(int wall) {
            int many = 0;
            for (int opening = 0; opening < count; opening++) {
                if (walls[opening] == wall) {
                    many++;
                }
            }
            return many;
        }

        int widthOf(int wall) {
            int sum = 0;
            for (int opening = 0; opening < count; opening++) {
                if (walls[opening] == wall) {
                    sum += widths[opening];
                }
            }
            return sum;
        }

        boolean overlap(int wall, int start, int width) {
            for (int opening = 0; opening < count; opening++) {
                if (walls[opening] == wall
                        && starts[opening] < start + width
                        && start < starts[opening] + widths[opening]) {
                    return true;
                }
            }
            return false;
        }

        void write(int row, int wall, int start, int width) {
            walls[row] = wall;
            starts[row] = start;
            widths[row] = width;
        }

        // Answers the first row that is free after the copies.
        int writeCopies(int fromWall, int toWall, int firstRow) {
            int row = firstRow;
            for (int opening = 0; opening < count; opening++) {
                if (walls[opening] == fromWall) {
                    write(row, toWall, starts[opening], widths[opening]);
                    row++;
                }
            }
            return row;
        }
    }

    // Acts below done are done, those from there to held are undone and can be done again.
    private static final class History {
        final int[] kinds = new int[MOST_ACTS];
        final int[] targets = new int[MOST_ACTS];
        final int[] firsts = new int[MOST_ACTS];
        final int[] seconds = new int[MOST_ACTS];
        int done = 0;
        int held = 0;

        void write(int kind, int target, int first, int second) {
            kinds[done] = kind;
            targets[done] = target;
            firsts[done] = first;
            seconds[done] = second;
            held = done + 1;
        }
    }
}
