/** Promises 6 (wall), 7 (move), 8 (retype), 9 (remove) and 16 (wallAt). */
public final class WallsTest {
    public static void main(String[] args) {
        walls();
        wallRefused();
        wallStates();
        moves();
        moveRefused();
        retypes();
        removes();
        told();
        joins();
        joinsOfSeveral();
        areas();
        Check.end("WallsTest");
    }

    /** Two storeys, types 10 and 20 thick. */
    private static Subject started() {
        Subject d = new Subject();
        d.storey(0);
        d.storey(250);
        d.type(10);
        d.type(20);
        return d;
    }

    private static void walls() {
        Subject d = started();
        Check.same("6: along x", d.wall(0, 0, -1000, 1000, 1000, 1000), 0);
        Check.same("6: along y", d.wall(1, 1, 3, 9, 3, 8), 1);
        Check.same("6: the same again", d.wall(1, 1, 3, 9, 3, 8), 2);
        Check.same("6: an act each", d.acts(0), 7);
        long[] due = {1, 1, 3, 9, 3, 8, 1};
        for (int what = 0; what < due.length; what++) {
            Check.same("16: wall 1, " + what, d.wallAt(1, what), due[what]);
        }
        d.undo();
        Check.same("6: the number is free again", d.wall(0, 0, 0, 0, 1, 0), 2);
        Check.same("6: new place", d.wallAt(2, 4), 1);
    }

    private static void wallRefused() {
        Subject d = started();
        Check.argument("6: aslant", d, () -> d.wall(0, 0, 0, 0, 1, 1));
        Check.argument("6: aslant afar", d, () -> d.wall(0, 0, 0, 0, 1000, -1));
        Check.argument("6: one place", d, () -> d.wall(0, 0, 4, 4, 4, 4));
        Check.argument("6: storey 2", d, () -> d.wall(2, 0, 0, 0, 1, 0));
        Check.argument("6: storey -1", d, () -> d.wall(-1, 0, 0, 0, 1, 0));
        Check.argument("6: type 2", d, () -> d.wall(0, 2, 0, 0, 1, 0));
        Check.argument("6: type -1", d, () -> d.wall(0, -1, 0, 0, 1, 0));
        Check.argument("6: x0 high", d, () -> d.wall(0, 0, 1001, 0, 0, 0));
        Check.argument("6: x0 low", d, () -> d.wall(0, 0, -1001, 0, 0, 0));
        Check.argument("6: y0 high", d, () -> d.wall(0, 0, 0, 1001, 0, 0));
        Check.argument("6: y0 low", d, () -> d.wall(0, 0, 0, -1001, 0, 0));
        Check.argument("6: x1 high", d, () -> d.wall(0, 0, 0, 0, 1001, 0));
        Check.argument("6: x1 low", d, () -> d.wall(0, 0, 0, 0, -1001, 0));
        Check.argument("6: y1 high", d, () -> d.wall(0, 0, 0, 0, 0, 1001));
        Check.argument("6: y1 low", d, () -> d.wall(0, 0, 0, 0, 0, -1001));
        Check.argument("6: far off", d, () -> d.wall(0, 0, 0, 0, 0, Integer.MIN_VALUE));
    }

    private static void wallStates() {
        Subject d = started();
        for (int w = 0; w < 40; w++) {
            Check.same("6: number", d.wall(0, 0, 0, w, 10, w), w);
        }
        Check.state("6: there are 40", d, () -> d.wall(0, 0, 0, 0, 1, 0));
        Check.argument("6: 40, but aslant", d, () -> d.wall(0, 0, 0, 0, 1, 1));
        d.remove(7);
        Check.state("6: those taken away count", d, () -> d.wall(0, 0, 0, 0, 1, 0));
        d.undo();
        d.undo();
        Check.same("6: 39 and one more", d.wall(0, 0, 0, 0, 1, 0), 39);
        d.undo();
        Check.fillHistory(d);
        Check.state("6: 200 acts", d, () -> d.wall(0, 0, 0, 0, 1, 0));
        Check.argument("6: 200 acts, but no such type", d, () -> d.wall(0, 2, 0, 0, 1, 0));
    }

    private static void moves() {
        Subject d = started();
        d.wall(0, 0, 10, 20, 40, 20);
        d.opening(0, 5, 6);
        d.move(0, -3, 7);
        long[] due = {0, 0, 7, 27, 37, 27, 30, 30};
        for (int what = 0; what < due.length; what++) {
            Check.same("7: " + what, d.wallAt(0, what), due[what]);
        }
        Check.same("7: the opening goes along", d.openingAt(0, 1), 5);
        d.move(0, 963, 973);
        Check.same("7: up to the bound, x1", d.wallAt(0, 4), 1000);
        Check.same("7: up to the bound, y1", d.wallAt(0, 5), 1000);
        d.move(0, -1970, -2000);
        Check.same("7: down to the bound, x0", d.wallAt(0, 2), -1000);
        Check.same("7: down to the bound, y0", d.wallAt(0, 3), -1000);
        int done = d.acts(0);
        d.move(0, 0, 0);
        Check.same("7: nowhere is an act, too", d.acts(0), done + 1);
    }

    private static void moveRefused() {
        Subject d = started();
        d.wall(0, 0, 990, 0, 980, 0);
        d.wall(0, 0, 0, -990, 0, -980);
        Check.argument("7: first place out", d, () -> d.move(0, 11, 0));
        Check.argument("7: second place out", d, () -> d.move(0, -1981, 0));
        Check.argument("7: y out", d, () -> d.move(0, 0, 1001));
        Check.argument("7: y0 out", d, () -> d.move(1, 0, -11));
        Check.argument("7: y1 out", d, () -> d.move(1, 0, 1981));
        Check.argument("7: x out", d, () -> d.move(1, -1001, 0));
        Check.argument("7: wraps round x", d, () -> d.move(0, Integer.MAX_VALUE, 0));
        Check.argument("7: wraps round y", d, () -> d.move(1, 0, Integer.MIN_VALUE));
        Check.argument("7: no wall 2", d, () -> d.move(2, 0, 0));
        Check.argument("7: no wall -1", d, () -> d.move(-1, 0, 0));
        Check.argument("7: no wall 40", d, () -> d.move(40, 0, 0));
        d.remove(1);
        Check.argument("7: taken away", d, () -> d.move(1, 1, 0));
        Check.fillHistory(d);
        Check.state("7: 200 acts", d, () -> d.move(0, 1, 0));
        Check.argument("7: 200 acts, but out", d, () -> d.move(0, 11, 0));
    }

    private static void retypes() {
        Subject d = started();
        d.wall(0, 0, 0, 0, 50, 0);
        d.wall(0, 0, 0, 0, 0, 50);
        d.retype(0, 1);
        Check.same("8: type", d.wallAt(0, 1), 1);
        Check.same("8: the other stays", d.wallAt(1, 1), 0);
        Check.same("8: joins by it", d.wallAt(1, 7), 40);
        int done = d.acts(0);
        d.retype(0, 1);
        Check.same("8: the same type is an act", d.acts(0), done + 1);
        Check.argument("8: type 2", d, () -> d.retype(0, 2));
        Check.argument("8: type -1", d, () -> d.retype(0, -1));
        Check.argument("8: wall 2", d, () -> d.retype(2, 0));
        Check.argument("8: wall -1", d, () -> d.retype(-1, 0));
        d.remove(1);
        Check.argument("8: taken away", d, () -> d.retype(1, 0));
        Check.fillHistory(d);
        Check.state("8: 200 acts", d, () -> d.retype(0, 0));
        Check.argument("8: 200 acts, but no type", d, () -> d.retype(0, 2));
    }

    private static void removes() {
        Subject d = started();
        d.wall(0, 0, 0, 0, 50, 0);
        d.wall(0, 0, 0, 0, 0, 50);
        d.opening(0, 0, 5);
        d.opening(1, 0, 5);
        d.remove(0);
        Check.same("9: an act", d.acts(0), 9);
        Check.same("9: keeps its number", d.many(2), 2);
        Check.same("9: its openings keep theirs", d.many(3), 2);
        Check.argument("9: not there", d, () -> d.wallAt(0, 0));
        Check.argument("9: its opening is not there", d, () -> d.openingAt(0, 0));
        Check.same("9: the other's is", d.openingAt(1, 0), 1);
        Check.same("9: no join with it", d.wallAt(1, 7), 50);
        Check.same("9: no body", d.body(0, 20, 0, 0), StoreyShapes.NONE);
        Check.argument("9: again", d, () -> d.remove(0));
        Check.argument("9: no opening in it", d, () -> d.opening(0, 20, 5));
        Check.same("9: the next number", d.wall(0, 0, 0, 0, 50, 0), 2);
        Check.argument("9: wall 3", d, () -> d.remove(3));
        Check.argument("9: wall -1", d, () -> d.remove(-1));
        d.undo();
        d.undo();
        Check.same("9: there again", d.wallAt(0, 9), 1);
        Check.same("9: its opening, too", d.openingAt(0, 2), 5);
        Check.fillHistory(d);
        Check.state("9: 200 acts", d, () -> d.remove(0));
        Check.argument("9: 200 acts, but no wall", d, () -> d.remove(2));
    }

    private static void told() {
        Subject d = started();
        d.wall(1, 1, 30, -5, -10, -5);
        d.opening(0, 3, 7);
        d.opening(0, 10, 1);
        long[] due = {1, 1, 30, -5, -10, -5, 40, 40, 40 * 300 - 8 * 200, 2};
        for (int what = 0; what < due.length; what++) {
            Check.same("16: " + what, d.wallAt(0, what), due[what]);
        }
        Check.argument("16: what 10", d, () -> d.wallAt(0, 10));
        Check.argument("16: what -1", d, () -> d.wallAt(0, -1));
        Check.argument("16: wall 1", d, () -> d.wallAt(1, 0));
        Check.argument("16: wall 40", d, () -> d.wallAt(40, 0));
        Check.argument("16: wall -1", d, () -> d.wallAt(-1, 0));
        d.undo();
        Check.same("16: one opening", d.wallAt(0, 9), 1);
        d.undo();
        d.undo();
        Check.argument("16: undone", d, () -> d.wallAt(0, 0));
    }

    private static void joins() {
        Subject d = started();
        d.wall(0, 0, 0, 0, 100, 0);
        d.wall(0, 1, 100, 80, 100, 0);
        Check.same("16: later by the greater", d.wallAt(0, 7), 110);
        Check.same("16: earlier by the less", d.wallAt(1, 7), 75);
        d.wall(0, 1, 100, 0, 200, 0);
        Check.same("16: the same way does not join", d.wallAt(0, 7), 110);
        Check.same("16: joins the one across", d.wallAt(2, 7), 90);
        d.wall(1, 1, 0, 0, 0, 50);
        Check.same("16: another storey does not join", d.wallAt(0, 7), 110);
        d.wall(0, 1, 50, 0, 50, 50);
        Check.same("16: not at an end of it", d.wallAt(0, 7), 110);
        Check.same("16: nor of the other", d.wallAt(4, 7), 50);
        d.wall(0, 1, 0, -20, 0, 20);
        Check.same("16: an end within the other", d.wallAt(0, 7), 110);
        d.move(5, 0, 20);
        Check.same("16: both ends", d.wallAt(0, 7), 120);
        Check.same("16: length stays", d.wallAt(0, 6), 100);
    }

    private static void joinsOfSeveral() {
        Subject d = started();
        d.type(100);
        d.wall(0, 0, 0, 0, 0, 30);
        d.wall(0, 2, 0, 0, 40, 0);
        d.wall(0, 1, 0, 0, 0, -30);
        d.wall(0, 2, 40, 0, 40, 5);
        d.wall(0, 2, 0, 5, 40, 5);
        Check.same("16: the least number, greater than its own", d.wallAt(0, 7), 30 + 50);
        Check.same("16: the least number, less than its own", d.wallAt(1, 7), 40 - 5 + 50);
        Check.same("16: below 0", d.wallAt(3, 7), 5 - 50 + 50);
        d.remove(4);
        Check.same("16: far below 0", d.wallAt(3, 7), 5 - 50);
        Check.same("16: area below 0", d.wallAt(3, 8), -45 * 250);
        d.remove(0);
        Check.same("16: then the next least", d.wallAt(1, 7), 40 + 10 + 50);
    }

    private static void areas() {
        Subject d = started();
        d.wall(0, 0, 0, 0, 100, 0);
        d.opening(0, 0, 100);
        Check.same("16: 250 high", d.wallAt(0, 8), 100 * 250 - 100 * 200);
        d.level(1, 200);
        Check.same("16: 200 high", d.wallAt(0, 8), 0);
        d.level(1, 199);
        Check.same("16: 199 high", d.wallAt(0, 8), 0);
        d.wall(0, 1, 0, 0, 0, 50);
        Check.same("16: with a join", d.wallAt(0, 8), 110 * 199 - 100 * 199);
        d.level(1, 10000);
        d.level(0, -1000);
        Check.same("16: 11000 high", d.wallAt(0, 8), 110 * 11000 - 100 * 200);
    }
}
