/** Promise 11 (copy). */
public final class CopyTest {
    public static void main(String[] args) {
        copies();
        ownThings();
        undoneThingsAreNotCopied();
        refused();
        tooManyWalls();
        tooManyOpenings();
        manyActs();
        Check.end("CopyTest");
    }

    private static Subject started() {
        Subject d = new Subject();
        d.storey(0);
        d.storey(100);
        d.storey(400);
        d.type(10);
        d.type(20);
        return d;
    }

    private static void copies() {
        Subject d = started();
        d.wall(0, 0, 0, 0, 100, 0);
        d.wall(1, 0, 0, 0, 50, 0);
        d.wall(0, 1, 0, 0, 0, 80);
        d.wall(0, 1, 100, 80, 100, 0);
        d.opening(3, 1, 2);
        d.opening(2, 3, 4);
        d.opening(0, 5, 6);
        d.opening(3, 7, 8);
        d.opening(1, 9, 10);
        d.remove(2);
        int done = d.acts(0);
        Check.same("11: walls that are there", d.copy(0, 1), 2);
        Check.same("11: one act", d.acts(0), done + 1);
        Check.same("11: walls", d.many(2), 6);
        Check.same("11: openings", d.many(3), 8);
        long[][] walls = {{1, 0, 0, 0, 100, 0}, {1, 1, 100, 80, 100, 0}};
        for (int i = 0; i < walls.length; i++) {
            for (int what = 0; what < walls[i].length; what++) {
                Check.same("11: new wall " + i + ", " + what, d.wallAt(4 + i, what), walls[i][what]);
            }
        }
        int[][] openings = {{4, 5, 6}, {5, 1, 2}, {5, 7, 8}};
        for (int i = 0; i < openings.length; i++) {
            for (int what = 0; what < 3; what++) {
                Check.same("11: new opening " + i + ", " + what, d.openingAt(5 + i, what), openings[i][what]);
            }
        }
        Check.same("11: the first storey keeps its walls", d.storeyAt(0, 2), 2);
        Check.same("11: what was there stays", d.wallAt(1, 4), 50);
        Check.same("11: together", d.storeyAt(1, 2), 3);
        Check.same("11: joins there", d.wallAt(4, 7), 110);
        Check.same("11: copied on", d.copy(1, 2), 3);
        Check.same("11: and back down", d.copy(2, 0), 3);
    }

    private static void ownThings() {
        Subject d = started();
        d.wall(0, 0, 0, 0, 100, 0);
        d.opening(0, 5, 6);
        Check.same("11: none to copy", d.copy(2, 0), 0);
        Check.same("11: is an act, too", d.acts(0), 8);
        d.copy(0, 2);
        d.move(1, 1, 1);
        d.retype(1, 1);
        Check.same("11: the first wall stays where it is", d.wallAt(0, 2), 0);
        Check.same("11: and keeps its type", d.wallAt(0, 1), 0);
        d.remove(0);
        Check.same("11: the copy stays", d.wallAt(1, 9), 1);
        for (int i = 0; i < 4; i++) {
            d.undo();
        }
        Check.same("11: undone, walls", d.many(2), 1);
        Check.same("11: undone, openings", d.many(3), 1);
        d.redo();
        Check.same("11: again, walls", d.many(2), 2);
        Check.same("11: again, its opening", d.openingAt(1, 0), 1);
        Check.same("11: again, where it was", d.wallAt(1, 2), 0);
        d.redo();
        Check.same("11: and moved again", d.wallAt(1, 2), 1);
    }

    private static void undoneThingsAreNotCopied() {
        Subject d = started();
        d.wall(0, 0, 0, 0, 100, 0);
        d.wall(0, 0, 0, 9, 100, 9);
        d.opening(1, 5, 6);
        d.opening(0, 7, 8);
        d.wall(0, 0, 0, 20, 100, 20);
        d.undo();
        d.undo();
        Check.same("11: without the undone wall", d.copy(0, 1), 2);
        Check.same("11: without the undone opening", d.many(3), 2);
        Check.same("11: the opening is the second wall's", d.openingAt(1, 0), 3);
        Check.same("11: and begins where it did", d.openingAt(1, 1), 5);
        Check.same("11: the first wall has none", d.wallAt(2, 9), 0);
    }

    private static void refused() {
        Subject d = started();
        d.wall(0, 0, 0, 0, 100, 0);
        Check.argument("11: onto itself", d, () -> d.copy(0, 0));
        Check.argument("11: from 3", d, () -> d.copy(3, 0));
        Check.argument("11: from -1", d, () -> d.copy(-1, 0));
        Check.argument("11: to 3", d, () -> d.copy(0, 3));
        Check.argument("11: to -1", d, () -> d.copy(0, -1));
    }

    private static void tooManyWalls() {
        Subject d = started();
        for (int w = 0; w < 20; w++) {
            d.wall(0, 0, 0, w, 10, w);
        }
        d.wall(1, 0, 0, 0, 10, 0);
        Check.state("11: 41 walls", d, () -> d.copy(0, 1));
        Check.argument("11: 41 walls, but onto itself", d, () -> d.copy(0, 0));
        d.undo();
        Check.same("11: 40 walls", d.copy(0, 1), 20);
        Check.same("11: none more", d.copy(2, 1), 0);
        Check.state("11: 60 walls", d, () -> d.copy(1, 0));
        d.undo();
        d.undo();
        d.remove(3);
        d.wall(0, 0, 0, 0, 10, 0);
        Check.state("11: 21 and 20 walls", d, () -> d.copy(0, 1));
        d.remove(4);
        Check.same("11: 21 and 19 walls", d.copy(0, 1), 19);
        Check.same("11: the last one", d.wallAt(39, 0), 1);
    }

    private static void tooManyOpenings() {
        Subject d = started();
        d.wall(0, 0, 0, 0, 100, 0);
        d.wall(0, 0, 0, 9, 100, 9);
        for (int o = 0; o < 30; o++) {
            d.opening(o % 2, o, 1);
        }
        d.opening(0, 90, 1);
        Check.state("11: 62 openings", d, () -> d.copy(0, 1));
        d.undo();
        Check.same("11: 60 openings", d.copy(0, 1), 2);
        Check.same("11: a storey without walls", d.copy(2, 1), 0);
        d.wall(2, 0, 0, 0, 100, 0);
        Check.same("11: a wall without openings", d.copy(2, 1), 1);
        d.undo();
        d.undo();
        d.undo();
        Check.same("11: the last one", d.openingAt(59, 0), 3);
        Check.same("11: where it begins", d.openingAt(59, 1), 29);
        d.undo();
        d.wall(1, 0, 0, 0, 100, 0);
        d.opening(2, 0, 1);
        Check.state("11: 61 openings", d, () -> d.copy(0, 1));
        d.remove(1);
        Check.same("11: openings of walls taken away stay", d.copy(0, 1), 1);
        Check.same("11: 46 openings", d.many(3), 46);
    }

    private static void manyActs() {
        Subject d = started();
        d.wall(0, 0, 0, 0, 100, 0);
        Check.fillHistory(d);
        Check.state("11: 200 acts", d, () -> d.copy(0, 1));
        Check.state("11: 200 acts, none to copy", d, () -> d.copy(1, 0));
        Check.argument("11: 200 acts, but onto itself", d, () -> d.copy(0, 0));
    }
}
