/** The sentences under THE DRAWING that name a bound: the last number within it and the first one beyond. */
public final class DrawingBoundsTest {
    private static final int LOW = Integer.MIN_VALUE;
    private static final int HIGH = Integer.MAX_VALUE;

    public static void main(String[] args) {
        storeysAreSix();
        levelsOfStoreysHaveBounds();
        levelsHaveBounds();
        aStoreyIsAboveTheOneBefore();
        aLevelIsBetweenItsNeighbours();
        theLevelThatCountsIsTheOneNow();
        typesAreEight();
        thicknessesAreEven();
        wallsAreForty();
        openingsAreSixty();
        coordinatesHaveBounds();
        wallsGoAlongXOrY();
        wallsHaveTwoPlaces();
        movesStayWithinBounds();
        openingsBeginAt0();
        openingsAre1Wide();
        openingsEndWithinTheWall();
        openingsThatWrapRound();
        openingsDoNotOverlap();
        takenAwayWallsKeepTheirNumbers();
        openingsOfWallsTakenAway();
        Check.end("DrawingBoundsTest");
    }

    /** Three storeys, types 10 and 20 thick, a wall of 100 along x and one of 60 along y. */
    private static Subject started() {
        Subject d = new Subject();
        d.storey(0);
        d.storey(100);
        d.storey(400);
        d.type(10);
        d.type(20);
        d.wall(0, 0, 0, 0, 100, 0);
        d.wall(0, 1, 300, 60, 300, 0);
        return d;
    }

    /** "STOREYS 0 .. 5 (as they come ..": also promise 2, "illegal state: there are 6". */
    private static void storeysAreSix() {
        Subject d = new Subject();
        for (int s = 0; s < 6; s++) {
            Check.argument("storey " + s + " is not there yet", d, "storeyAt", s, 0);
            Check.same("storey " + s, d.storey(s), s);
            Check.same("storey " + s + " is there", d.storeyAt(s, 0), s);
        }
        d.type(10);
        d.undo();
        Check.state("a storey 6", d, "storey", 6);
        Check.state("a storey 6 that is far above", d, "storey", 10000);
        Check.argument("no storey 6", d, "storeyAt", 6, 0);
        Check.argument("no level of it", d, "level", 6, 7);
        Check.same("still six", d.many(0), 6);
    }

    /** "with a LEVEL, -1000 .. 10000", of a storey that comes. */
    private static void levelsOfStoreysHaveBounds() {
        Subject d = new Subject();
        for (int level : new int[] {LOW, LOW + 1, -10000, -1001, 10001, 65536, HIGH - 1, HIGH}) {
            Check.argument("level out of bounds", d, "storey", level);
        }
        for (int level : new int[] {-1000, -999, 0, 9999, 10000}) {
            Check.accepted("level within bounds", d, 0, "storey", level);
        }
        d.storey(9999);
        Check.accepted("the highest above another", d, 1, "storey", 10000);
        Check.argument("above all", d, "storey", 10001);
    }

    /** "with a LEVEL, -1000 .. 10000", of a storey that has another one. */
    private static void levelsHaveBounds() {
        Subject d = started();
        Check.accepted("lowest", d, 0, "level", 0, -1000);
        Check.argument("below the lowest", d, "level", 0, -1001);
        Check.accepted("highest", d, 0, "level", 2, 10000);
        Check.argument("above the highest", d, "level", 2, 10001);
        for (int level : new int[] {LOW, LOW + 1, HIGH - 1, HIGH}) {
            for (int storey = 0; storey < 3; storey++) {
                Check.argument("far off", d, "level", storey, level);
            }
        }
        Subject one = new Subject();
        one.storey(5);
        Check.accepted("the only one, lowest", one, 0, "level", 0, -1000);
        Check.accepted("the only one, highest", one, 0, "level", 0, 10000);
        Check.argument("the only one, too low", one, "level", 0, -1001);
        Check.argument("the only one, too high", one, "level", 0, 10001);
    }

    /** "each above the one before": promise 2, "also if the level is not above that of the one before". */
    private static void aStoreyIsAboveTheOneBefore() {
        Subject d = started();
        Check.accepted("just above", d, 3, "storey", 401);
        Check.argument("as high", d, "storey", 400);
        Check.argument("just below", d, "storey", 399);
        Check.argument("between those before", d, "storey", 50);
        Check.argument("below all", d, "storey", -1000);
        d.level(2, 10000);
        Check.argument("nothing is above the highest", d, "storey", 10000);
        Check.argument("nor beyond", d, "storey", 10001);
    }

    /** "each above the one before, and below the next one": promise 3, the same. */
    private static void aLevelIsBetweenItsNeighbours() {
        Subject d = started();
        Check.accepted("just above the one before", d, 0, "level", 1, 1);
        Check.argument("as the one before", d, "level", 1, 0);
        Check.argument("just below the one before", d, "level", 1, -1);
        Check.accepted("just below the next", d, 0, "level", 1, 399);
        Check.argument("as the next", d, "level", 1, 400);
        Check.argument("just above the next", d, "level", 1, 401);
        Check.accepted("the first one, just below the next", d, 0, "level", 0, 99);
        Check.argument("the first one, as the next", d, "level", 0, 100);
        Check.argument("the first one, above the next but one", d, "level", 0, 401);
        Check.accepted("the last one, just above the one before", d, 0, "level", 2, 101);
        Check.argument("the last one, as the one before", d, "level", 2, 100);
        Check.argument("the last one, below the one before but one", d, "level", 2, -1);
        d.level(0, 99);
        d.level(2, 101);
        Check.accepted("no room but for its own", d, 0, "level", 1, 100);
        Check.argument("no room below", d, "level", 1, 99);
        Check.argument("no room above", d, "level", 1, 101);
    }

    /** The same, when neighbours have moved, come or gone. */
    private static void theLevelThatCountsIsTheOneNow() {
        Subject d = new Subject();
        d.storey(0);
        d.storey(100);
        d.level(1, 50);
        Check.accepted("above where it is now", d, 2, "storey", 51);
        Check.argument("not above where it is now", d, "storey", 50);
        d.undo();
        Check.accepted("above where it is again", d, 2, "storey", 101);
        Check.argument("not above where it is again", d, "storey", 100);
        d.undo();
        Check.accepted("nothing above the only one", d, 0, "level", 0, 10000);
        d.redo();
        Check.argument("one above it again", d, "level", 0, 100);
        Check.accepted("below that one", d, 0, "level", 0, 99);
    }

    /** "TYPES 0 .. 7 (as they come ..": also promise 4, "illegal state: there are 8". */
    private static void typesAreEight() {
        Subject d = new Subject();
        for (int t = 0; t < 8; t++) {
            Check.argument("type " + t + " is not there yet", d, "typeAt", t, 0);
            Check.same("type " + t, d.type(2 + 2 * t), t);
            Check.same("type " + t + " is there", d.typeAt(t, 0), 2 + 2 * t);
        }
        d.storey(0);
        d.undo();
        Check.state("a type 8", d, "type", 2);
        Check.state("a type 8 that is thick", d, "type", 100);
        Check.argument("no type 8", d, "typeAt", 8, 0);
        Check.argument("no thickness of it", d, "thickness", 8, 10);
        Check.same("still eight", d.many(1), 8);
    }

    /** "with a THICKNESS, an even number 2 .. 100". */
    private static void thicknessesAreEven() {
        Subject d = new Subject();
        d.type(50);
        d.type(60);
        for (int thickness = -4; thickness <= 104; thickness++) {
            if (thickness >= 2 && thickness <= 100 && thickness % 2 == 0) {
                Check.accepted("even", d, 2, "type", thickness);
                Check.accepted("even", d, 0, "thickness", 1, thickness);
            } else {
                Check.argument("odd or out of bounds", d, "type", thickness);
                Check.argument("odd or out of bounds", d, "thickness", 1, thickness);
            }
        }
        for (int thickness : new int[] {LOW, LOW + 1, LOW + 2, -100, 256 + 2, 65536 + 2, HIGH - 1, HIGH}) {
            Check.argument("far off", d, "type", thickness);
            Check.argument("far off", d, "thickness", 0, thickness);
        }
    }

    /** "WALLS 0 .. 39 (as they come)": also promise 6, "illegal state: there are 40". */
    private static void wallsAreForty() {
        Subject d = new Subject();
        d.storey(0);
        d.storey(9);
        d.type(10);
        for (int w = 0; w < 40; w++) {
            Check.same("wall " + w, d.wall(w % 2, 0, 0, w, 10 + w, w), w);
        }
        Check.same("the last one", d.wallAt(39, 6), 49);
        d.thickness(0, 20);
        d.undo();
        Check.state("a wall 40", d, "wall", 0, 0, 0, 0, 1, 0);
        Check.argument("no wall 40", d, "wallAt", 40, 0);
        Check.argument("no move of it", d, "move", 40, 0, 0);
        Check.argument("no opening in it", d, "opening", 40, 0, 1);
        d.remove(39);
        d.remove(0);
        Check.state("those taken away keep their numbers", d, "wall", 0, 0, 0, 0, 1, 0);
        Check.same("still forty", d.many(2), 40);
    }

    /** "OPENINGS 0 .. 59 (as they come)": also promise 10, "illegal state: .. there are 60". */
    private static void openingsAreSixty() {
        Subject d = started();
        for (int o = 0; o < 60; o++) {
            Check.same("opening " + o, d.opening(o < 30 ? 0 : 1, o % 30, 1), o);
        }
        Check.same("the last one", d.openingAt(59, 1), 29);
        d.thickness(0, 20);
        d.undo();
        Check.state("an opening 60", d, "opening", 0, 30, 1);
        Check.argument("no opening 60", d, "openingAt", 60, 0);
        d.remove(1);
        Check.state("those of walls taken away keep their numbers", d, "opening", 0, 30, 1);
        Check.same("still sixty", d.many(3), 60);
    }

    /** "coordinates -1000 .. 1000": each of the four, of walls along x and along y. */
    private static void coordinatesHaveBounds() {
        Subject d = started();
        int[][] within = {
            {-1000, -1000, 1000, -1000}, {1000, 1000, -1000, 1000}, {-1000, -1000, -1000, 1000}, {1000, 1000, 1000, -1000},
            {999, 1000, 1000, 1000}, {-1000, -1000, -999, -1000}, {1000, 1000, 1000, 999}, {-1000, -999, -1000, -1000}};
        for (int[] w : within) {
            Check.accepted("within bounds", d, 2, "wall", 0, 0, w[0], w[1], w[2], w[3]);
        }
        for (int bad : new int[] {LOW, LOW + 1, LOW + 1000, -1001, 1001, 65536, HIGH - 1000, HIGH}) {
            Check.argument("x0", d, "wall", 0, 0, bad, 5, 0, 5);
            Check.argument("x1", d, "wall", 0, 0, 0, 5, bad, 5);
            Check.argument("both x", d, "wall", 0, 0, bad, 5, bad, 6);
            Check.argument("y0", d, "wall", 0, 0, 5, bad, 5, 0);
            Check.argument("y1", d, "wall", 0, 0, 5, 0, 5, bad);
            Check.argument("both y", d, "wall", 0, 0, 5, bad, 6, bad);
            Check.argument("all", d, "wall", 0, 0, bad, bad, bad, 0);
        }
        Check.argument("whose difference wraps round", d, "wall", 0, 0, LOW, 0, HIGH, 0);
        Check.argument("whose difference wraps round", d, "wall", 0, 0, 0, HIGH, 0, LOW);
    }

    /** "goes from a place to another one on the same x or the same y": promise 6, "also if it goes aslant". */
    private static void wallsGoAlongXOrY() {
        Subject d = started();
        Check.accepted("along x", d, 2, "wall", 0, 0, 7, 7, 8, 7);
        Check.accepted("back along x", d, 2, "wall", 0, 0, 7, 7, 6, 7);
        Check.accepted("along y", d, 2, "wall", 0, 0, 7, 7, 7, 8);
        Check.accepted("back along y", d, 2, "wall", 0, 0, 7, 7, 7, 6);
        for (int dx = -1; dx <= 1; dx += 2) {
            for (int dy = -1; dy <= 1; dy += 2) {
                Check.argument("aslant", d, "wall", 0, 0, 7, 7, 7 + dx, 7 + dy);
                Check.argument("hardly aslant", d, "wall", 0, 0, 7, 7, 7 + dx * 900, 7 + dy);
                Check.argument("hardly aslant", d, "wall", 0, 0, 7, 7, 7 + dx, 7 + dy * 900);
            }
        }
        Check.argument("mirrored", d, "wall", 0, 0, 5, 9, 9, 5);
        Check.argument("turned round 0", d, "wall", 0, 0, 5, 9, -5, -9);
    }

    /** "not the same place". */
    private static void wallsHaveTwoPlaces() {
        Subject d = started();
        for (int at : new int[] {-1000, -1, 0, 1, 1000}) {
            Check.argument("one place", d, "wall", 0, 0, at, at, at, at);
            Check.argument("one place", d, "wall", 0, 0, at, 3, at, 3);
        }
        Subject f = d.fork();
        f.wall(0, 0, 3, 3, 4, 3);
        Check.same("length 1", f.wallAt(2, 6), 1);
        f.wall(0, 0, 1000, 3, -1000, 3);
        Check.same("length 2000", f.wallAt(3, 6), 2000);
        f.wall(0, 0, 3, -1000, 3, 1000);
        Check.same("length 2000 along y", f.wallAt(4, 6), 2000);
    }

    /** Promise 7: "also if a coordinate would be out of bounds". */
    private static void movesStayWithinBounds() {
        Subject d = started();
        Check.accepted("x0 at the lowest", d, 0, "move", 0, -1000, 0);
        Check.argument("x0 below", d, "move", 0, -1001, 0);
        Check.accepted("x1 at the highest", d, 0, "move", 0, 900, 0);
        Check.argument("x1 above", d, "move", 0, 901, 0);
        Check.accepted("y at the lowest", d, 0, "move", 0, 0, -1000);
        Check.argument("y below", d, "move", 0, 0, -1001);
        Check.accepted("y at the highest", d, 0, "move", 0, 0, 1000);
        Check.argument("y above", d, "move", 0, 0, 1001);
        Check.accepted("y1 at the lowest", d, 0, "move", 1, 0, -1000);
        Check.argument("y1 below", d, "move", 1, 0, -1001);
        Check.accepted("y0 at the highest", d, 0, "move", 1, 0, 940);
        Check.argument("y0 above", d, "move", 1, 0, 941);
        Check.accepted("x at the highest", d, 0, "move", 1, 700, 0);
        Check.argument("x above", d, "move", 1, 701, 0);
        Check.accepted("x at the lowest", d, 0, "move", 1, -1300, 0);
        Check.argument("x below", d, "move", 1, -1301, 0);
        Check.argument("only y is out", d, "move", 0, 1, 1001);
        Check.argument("only x is out", d, "move", 0, 901, 1);
        for (int far : new int[] {LOW, LOW + 1, -65536, 65536, HIGH - 1, HIGH}) {
            for (int wall = 0; wall < 2; wall++) {
                Check.argument("far off in x", d, "move", wall, far, 0);
                Check.argument("far off in y", d, "move", wall, 0, far);
                Check.argument("far off in both", d, "move", wall, far, far);
            }
        }
        d.move(0, -1000, -1000);
        Check.argument("sums that wrap round downwards", d, "move", 0, LOW, LOW);
        d.move(0, 1900, 2000);
        Check.argument("sums that wrap round upwards", d, "move", 0, HIGH, HIGH);
        Check.accepted("from corner to corner", d, 0, "move", 0, -1900, -2000);
    }

    /** "it begins so far from the wall's first place (0 or more)". */
    private static void openingsBeginAt0() {
        Subject d = started();
        Check.accepted("at the first place", d, 0, "opening", 0, 0, 5);
        Check.accepted("just behind it", d, 0, "opening", 0, 1, 5);
        for (int at : new int[] {-1, -5, -100, LOW, LOW + 1, LOW + 5}) {
            Check.argument("before the first place", d, "opening", 0, at, 5);
            Check.argument("before it, up to within the wall", d, "opening", 0, at, HIGH);
        }
    }

    /** "is so wide (1 or more)". */
    private static void openingsAre1Wide() {
        Subject d = started();
        Check.accepted("1 wide", d, 0, "opening", 0, 50, 1);
        for (int width : new int[] {0, -1, -50, LOW, LOW + 1}) {
            Check.argument("less than 1 wide", d, "opening", 0, 50, width);
            Check.argument("less than 1 wide at the first place", d, "opening", 0, 0, width);
            Check.argument("less than 1 wide at the last place", d, "opening", 0, 100, width);
        }
    }

    /** "ends within the wall's length": promise 10, "also if it does not lie within the wall". */
    private static void openingsEndWithinTheWall() {
        Subject d = started();
        Check.accepted("all of it", d, 0, "opening", 0, 0, 100);
        Check.argument("more than all", d, "opening", 0, 0, 101);
        Check.accepted("up to the end", d, 0, "opening", 0, 99, 1);
        Check.argument("across the end", d, "opening", 0, 99, 2);
        Check.argument("from the end", d, "opening", 0, 100, 1);
        Check.argument("behind the end", d, "opening", 0, 101, 1);
        Check.accepted("all of the other", d, 0, "opening", 1, 0, 60);
        Check.argument("more than all of the other", d, "opening", 1, 0, 61);
        Check.argument("from the end of the other", d, "opening", 1, 60, 1);
        d.wall(0, 0, 500, 0, 501, 0);
        Check.accepted("all of the shortest wall", d, 0, "opening", 2, 0, 1);
        Check.argument("more than the shortest wall", d, "opening", 2, 0, 2);
        Check.argument("behind the shortest wall", d, "opening", 2, 1, 1);
        d.wall(0, 1, 100, 0, 100, 50);
        Check.same("a join makes it longer", d.wallAt(0, 7), 110);
        Check.argument("but length counts, not net length", d, "opening", 0, 100, 1);
        Check.same("a join makes it shorter", d.wallAt(3, 7), 45);
        Check.accepted("but length counts there, too", d, 0, "opening", 3, 45, 5);
        d.wall(0, 0, 1000, 9, -1000, 9);
        Check.accepted("up to the end of the longest wall", d, 0, "opening", 4, 1999, 1);
        Check.accepted("all of the longest wall", d, 0, "opening", 4, 0, 2000);
        Check.argument("more than the longest wall", d, "opening", 4, 0, 2001);
    }

    /** The same, with sums that would wrap round. */
    private static void openingsThatWrapRound() {
        Subject d = started();
        int[] far = {1 << 30, HIGH - 100, HIGH - 1, HIGH};
        for (int at : far) {
            Check.argument("begins far off", d, "opening", 0, at, 1);
            Check.argument("begins far off and is all wide", d, "opening", 0, at, 100);
            for (int width : far) {
                Check.argument("both far off", d, "opening", 0, at, width);
            }
        }
        for (int width : far) {
            Check.argument("far too wide", d, "opening", 0, 0, width);
            Check.argument("far too wide from within", d, "opening", 0, 99, width);
            Check.argument("far too wide from the end", d, "opening", 0, 100, width);
        }
    }

    /** "does not overlap another one of it (they may touch)": promise 10, "it overlaps another one of it". */
    private static void openingsDoNotOverlap() {
        Subject d = started();
        d.opening(0, 40, 20);
        Check.accepted("touches before", d, 1, "opening", 0, 39, 1);
        Check.state("over its first part", d, "opening", 0, 39, 2);
        Check.accepted("all before", d, 1, "opening", 0, 0, 40);
        Check.state("one more than all before", d, "opening", 0, 0, 41);
        Check.accepted("touches behind", d, 1, "opening", 0, 60, 1);
        Check.state("over its last part", d, "opening", 0, 59, 1);
        Check.accepted("all behind", d, 1, "opening", 0, 60, 40);
        Check.state("one more than all behind", d, "opening", 0, 59, 41);
        Check.state("its first part", d, "opening", 0, 40, 1);
        Check.state("within it", d, "opening", 0, 50, 1);
        Check.state("the same", d, "opening", 0, 40, 20);
        Check.state("all round it", d, "opening", 0, 39, 22);
        Check.state("the whole wall", d, "opening", 0, 0, 100);
        Check.accepted("the other wall", d, 1, "opening", 1, 40, 20);
        d.opening(0, 70, 1);
        Check.accepted("fits between two", d, 2, "opening", 0, 60, 10);
        Check.state("too wide between two", d, "opening", 0, 60, 11);
        d.undo();
        d.undo();
        Check.accepted("with what is undone", d, 0, "opening", 0, 59, 20);
        d.redo();
        Check.state("with what is done again", d, "opening", 0, 59, 11);
    }

    /** "Walls can be TAKEN AWAY: they keep their numbers". */
    private static void takenAwayWallsKeepTheirNumbers() {
        Subject d = started();
        d.remove(0);
        Check.same("the next number", d.wall(0, 0, 0, 0, 100, 0), 2);
        Check.same("many", d.many(2), 3);
        Check.same("the other keeps its number", d.wallAt(1, 2), 300);
        for (int what = 0; what <= 9; what++) {
            Check.argument("is not there", d, "wallAt", 0, what);
        }
        Check.argument("cannot be moved", d, "move", 0, 0, 0);
        Check.argument("cannot have another type", d, "retype", 0, 0);
        Check.argument("cannot be taken away again", d, "remove", 0);
        Check.argument("cannot have an opening", d, "opening", 0, 0, 1);
        d.remove(1);
        d.remove(2);
        Check.same("none on the storey", d.storeyAt(0, 2), 0);
        Check.same("many of all that were", d.many(2), 3);
        Check.same("none to copy", d.copy(0, 1), 0);
    }

    /** "and their openings are not there while they are not". */
    private static void openingsOfWallsTakenAway() {
        Subject d = started();
        d.opening(0, 0, 10);
        d.opening(1, 0, 10);
        d.opening(0, 10, 10);
        d.remove(0);
        for (int what = 0; what <= 2; what++) {
            Check.argument("the first is not there", d, "openingAt", 0, what);
            Check.argument("the last is not there", d, "openingAt", 2, what);
        }
        Check.same("the other wall's is there", d.openingAt(1, 2), 10);
        Check.same("their numbers are kept", d.many(3), 3);
        Check.same("the next number", d.opening(1, 20, 1), 3);
        Check.same("the area of what is there", d.storeyAt(0, 3), 60 * 100 - 11 * 100);
        d.undo();
        d.undo();
        Check.same("there again", d.openingAt(0, 2), 10);
        Check.same("the last, too", d.openingAt(2, 1), 10);
        Check.state("and not to be overlapped", d, "opening", 0, 19, 1);
        d.redo();
        Check.argument("gone again", d, "openingAt", 2, 0);
    }
}
