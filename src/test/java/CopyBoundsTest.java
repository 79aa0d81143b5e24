/** Promise 11 at its bounds: "there would be more than 40 walls, or 60 openings". */
public final class CopyBoundsTest {
    public static void main(String[] args) {
        fortyWalls();
        takenAwayWallsCount();
        takenAwayWallsAreNotCopied();
        sixtyOpenings();
        sixtyOpeningsOfManyWalls();
        openingsOfWallsTakenAway();
        wallsFitButOpeningsDoNot();
        aFullDrawing();
        noWalls();
        Check.end("CopyBoundsTest");
    }

    private static Subject started() {
        Subject d = new Subject();
        d.storey(0);
        d.storey(100);
        d.storey(200);
        d.type(10);
        return d;
    }

    private static void walls(Subject d, int storey, int many) {
        for (int w = 0; w < many; w++) {
            d.wall(storey, 0, 0, 10 * w, 100, 10 * w);
        }
    }

    private static void openings(Subject d, int wall, int many) {
        for (int o = 0; o < many; o++) {
            d.opening(wall, o, 1);
        }
    }

    private static void fortyWalls() {
        Subject d = started();
        walls(d, 0, 20);
        Check.accepted("20 and 20", d, 20, "copy", 0, 1);
        walls(d, 1, 1);
        Check.state("21 and 20", d, "copy", 0, 1);
        Check.state("21 and 20, to the third", d, "copy", 0, 2);
        Check.accepted("21 and 1", d, 1, "copy", 1, 0);
        walls(d, 1, 18);
        Check.state("39 and 19", d, "copy", 1, 0);
        d.wall(2, 0, 0, 0, 1, 0);
        Check.state("40 and 1", d, "copy", 2, 0);
        d.undo();
        d.remove(20);
        d.wall(2, 0, 0, 0, 1, 0);
        Check.state("40 and 1, one of them taken away", d, "copy", 2, 0);
        d.undo();
        d.undo();
        d.undo();
        d.wall(2, 0, 0, 0, 1, 0);
        Check.accepted("39 and 1", d, 1, "copy", 2, 0);
    }

    private static void takenAwayWallsCount() {
        Subject d = started();
        walls(d, 1, 10);
        for (int w = 0; w < 10; w++) {
            d.remove(w);
        }
        walls(d, 0, 15);
        Check.accepted("25 and 15", d, 15, "copy", 0, 1);
        walls(d, 0, 1);
        Check.state("26 and 16", d, "copy", 0, 1);
        Check.accepted("none is there", d, 0, "copy", 1, 0);
    }

    private static void takenAwayWallsAreNotCopied() {
        Subject d = started();
        walls(d, 0, 21);
        Check.state("21 and 21", d, "copy", 0, 1);
        d.remove(0);
        Check.state("21 and 20", d, "copy", 0, 1);
        d.remove(20);
        Check.accepted("21 and 19", d, 19, "copy", 0, 1);
        d.copy(0, 1);
        Check.same("40 walls", d.many(2), 40);
        Check.same("the first copy is of wall 1", d.wallAt(21, 3), 10);
        Check.same("the last copy is of wall 19", d.wallAt(39, 3), 190);
        Check.state("and no more", d, "wall", 0, 0, 0, 0, 1, 0);
        Check.state("nor by a copy", d, "copy", 1, 2);
    }

    private static void sixtyOpenings() {
        Subject d = started();
        walls(d, 0, 1);
        openings(d, 0, 30);
        Check.accepted("30 and 30", d, 1, "copy", 0, 1);
        d.opening(0, 50, 1);
        Check.state("31 and 31", d, "copy", 0, 1);
        d.undo();
        walls(d, 1, 1);
        d.opening(1, 0, 1);
        Check.state("31 and 30", d, "copy", 0, 2);
        Check.accepted("31 and 1", d, 1, "copy", 1, 2);
        d.undo();
        d.copy(0, 1);
        Check.same("60 openings", d.many(3), 60);
        Check.same("the last one is of the last wall", d.openingAt(59, 0), 2);
        Check.same("and begins there", d.openingAt(59, 1), 29);
        Check.state("and no more", d, "opening", 0, 60, 1);
    }

    private static void sixtyOpeningsOfManyWalls() {
        Subject d = started();
        walls(d, 0, 15);
        for (int o = 0; o < 30; o++) {
            d.opening(14 - o % 15, o, 1);
        }
        Check.same("30 and 30", d.copy(0, 1), 15);
        for (int o = 0; o < 30; o++) {
            Check.same("wall by wall " + o, d.openingAt(30 + o, 0), 15 + o / 2);
            Check.same("by their numbers " + o, d.openingAt(30 + o, 1), 14 - o / 2 + o % 2 * 15);
        }
        Check.state("45 walls and 90 openings", d, "copy", 0, 2);
    }

    private static void openingsOfWallsTakenAway() {
        Subject d = started();
        walls(d, 0, 2);
        openings(d, 0, 20);
        openings(d, 1, 21);
        Check.state("41 and 41", d, "copy", 0, 1);
        d.remove(0);
        Check.state("41 and 21", d, "copy", 0, 1);
        d.undo();
        d.remove(1);
        Check.state("41 and 20", d, "copy", 0, 1);
        d.undo();
        d.undo();
        d.undo();
        d.remove(1);
        Check.accepted("39 and 20", d, 1, "copy", 0, 1);
        d.wall(0, 0, 0, 90, 100, 90);
        d.opening(2, 0, 1);
        Check.state("40 and 21", d, "copy", 0, 1);
        d.undo();
        d.copy(0, 1);
        Check.same("59 openings", d.many(3), 59);
        Check.same("the copy has its own", d.wallAt(3, 9), 20);
    }

    private static void wallsFitButOpeningsDoNot() {
        Subject d = started();
        walls(d, 0, 3);
        openings(d, 2, 31);
        Check.state("walls fit, openings do not", d, "copy", 0, 1);
        Check.same("no wall has come", d.many(2), 3);
        d.move(2, 0, 1);
        d.undo();
        Check.state("nor with an act undone", d, "copy", 0, 1);
        Check.yes("which can be done again", d.redo());
    }

    private static void aFullDrawing() {
        Subject d = started();
        for (int s = 3; s < 6; s++) {
            d.storey(s * 100);
        }
        for (int t = 1; t < 8; t++) {
            d.type(10 + t * 2);
        }
        walls(d, 0, 20);
        for (int o = 0; o < 30; o++) {
            d.opening(o % 20, o, 1);
        }
        Check.same("walls", d.copy(0, 5), 20);
        int[] due = {6, 8, 40, 60};
        for (int what = 0; what < due.length; what++) {
            Check.same("15: full of " + what, d.many(what), due[what]);
        }
        Check.state("2", d, "storey", 600);
        Check.state("4", d, "type", 10);
        Check.state("6", d, "wall", 0, 0, 0, 0, 1, 0);
        Check.state("10", d, "opening", 0, 50, 1);
        Check.state("11: down", d, "copy", 5, 0);
        Check.state("11: up", d, "copy", 0, 5);
        Check.accepted("11: no walls", d, 0, "copy", 3, 0);
        Check.accepted("3", d, 0, "level", 5, 10000);
        Check.accepted("5", d, 0, "thickness", 7, 100);
        Check.accepted("7", d, 0, "move", 39, 900, 810);
        Check.accepted("8", d, 0, "retype", 39, 7);
        Check.accepted("9", d, 0, "remove", 39);
        Check.same("16: the last wall", d.wallAt(39, 3), 190);
        Check.same("17: the last opening", d.openingAt(59, 0), 39);
        Check.same("18: the last storey", d.storeyAt(5, 3), 20 * 100 * 300 - 30 * 200);
        Check.same("19: the last type", d.typeAt(7, 0), 24);
        Check.same("19: the first type", d.typeAt(0, 2), 4000);
        Check.same("20: the last wall's body", d.body(5, 100, 195, 0), 39);
    }

    /** How many walls: also 0, from a storey that never had one and one that has none any more. */
    private static void noWalls() {
        Subject d = started();
        Check.accepted("never had one", d, 0, "copy", 0, 1);
        walls(d, 0, 1);
        openings(d, 0, 5);
        Check.accepted("one", d, 1, "copy", 0, 1);
        d.remove(0);
        Check.accepted("none any more", d, 0, "copy", 0, 1);
        d.copy(0, 1);
        Check.same("no wall came", d.many(2), 1);
        Check.same("no opening came", d.many(3), 5);
        d.undo();
        d.undo();
        Check.accepted("one again", d, 1, "copy", 0, 1);
        d.copy(0, 1);
        Check.same("its copy and its openings", d.wallAt(1, 9), 5);
    }
}
