/**
 * "In all calls illegal argument: a number is out of its bounds, there is no such thing (or it is taken away).
 * Illegal state: as told, and for acts: 200 that are done are held. Of several exceptions the one named first
 * is thrown; a call that throws changes nothing."
 */
public final class RefusalsTest {
    private static final int LOW = Integer.MIN_VALUE;
    private static final int HIGH = Integer.MAX_VALUE;

    /** What is no number of a thing of which there are three, the one in the middle taken away if it can be. */
    private static final int[] NO_SUCH = {LOW, LOW + 1, -3, -1, 3, 4, 5, 6, 7, 8, 39, 40, 59, 60, 256, 65536, HIGH - 1, HIGH};

    public static void main(String[] args) {
        thereIsNoSuchStorey();
        thereIsNoSuchType();
        thereIsNoSuchWall();
        thereIsNoSuchOpening();
        whatHasBounds();
        whatHasBoundsThatDifferByThing();
        argumentsAllWrong();
        anEmptyDrawing();
        backToAnEmptyDrawing();
        things();
        argumentBeforeTooManyStoreys();
        argumentBeforeTooManyTypes();
        argumentBeforeTooManyWalls();
        argumentBeforeOverlap();
        argumentBeforeTooManyOpenings();
        argumentBeforeTooManyByCopy();
        argumentBeforeTwoHundredActs();
        severalStates();
        Check.end("RefusalsTest");
    }

    /** Three storeys, types, walls (wall 1 taken away) and openings (opening 1 with it), and two acts undone. */
    private static Subject started() {
        Subject d = new Subject();
        d.storey(0);
        d.storey(100);
        d.storey(400);
        d.type(10);
        d.type(20);
        d.type(30);
        d.wall(0, 0, 0, 0, 100, 0);
        d.wall(0, 1, 0, 0, 0, 100);
        d.wall(1, 2, 0, 50, 100, 50);
        d.opening(0, 10, 10);
        d.opening(1, 20, 10);
        d.opening(2, 30, 10);
        d.remove(1);
        d.opening(0, 50, 10);
        d.wall(0, 1, 100, 0, 100, 100);
        d.undo();
        d.undo();
        return d;
    }

    private static void thereIsNoSuchStorey() {
        Subject d = started();
        for (int no : NO_SUCH) {
            Check.argument("3", d, "level", no, 100);
            Check.argument("6", d, "wall", no, 0, 0, 0, 1, 0);
            Check.argument("11: from", d, "copy", no, 0);
            Check.argument("11: to", d, "copy", 0, no);
            Check.argument("11: both", d, "copy", no, no);
            Check.argument("20", d, "body", no, 0, 0, 0);
            for (int what = 0; what <= 3; what++) {
                Check.argument("18", d, "storeyAt", no, what);
            }
        }
        for (int s = 0; s < 3; s++) {
            Check.accepted("3", d, 0, "level", s, s == 0 ? -1 : s * 150);
            Check.accepted("6", d, 3, "wall", s, 0, 0, 0, 1, 0);
            Check.accepted("11", d, s == 2 ? 0 : 1, "copy", s, (s + 1) % 3);
            Check.same("20", d.body(s, 0, 0, 5), StoreyShapes.NONE);
        }
    }

    private static void thereIsNoSuchType() {
        Subject d = started();
        for (int no : NO_SUCH) {
            Check.argument("5", d, "thickness", no, 10);
            Check.argument("6", d, "wall", 0, no, 0, 0, 1, 0);
            Check.argument("8", d, "retype", 0, no);
            for (int what = 0; what <= 2; what++) {
                Check.argument("19", d, "typeAt", no, what);
            }
        }
        for (int t = 0; t < 3; t++) {
            Check.accepted("5", d, 0, "thickness", t, 100);
            Check.accepted("6", d, 3, "wall", 0, t, 0, 0, 1, 0);
            Check.accepted("8", d, 0, "retype", 2, t);
        }
    }

    private static void thereIsNoSuchWall() {
        Subject d = started();
        for (int no : withAnother(1)) {
            Check.argument("7", d, "move", no, 1, 0);
            Check.argument("8", d, "retype", no, 0);
            Check.argument("9", d, "remove", no);
            Check.argument("10", d, "opening", no, 0, 1);
            for (int what = 0; what <= 9; what++) {
                Check.argument("16", d, "wallAt", no, what);
            }
        }
        for (int w = 0; w < 3; w += 2) {
            Check.accepted("7", d, 0, "move", w, 1, 0);
            Check.accepted("8", d, 0, "retype", w, 0);
            Check.accepted("9", d, 0, "remove", w);
            Check.accepted("10", d, 3, "opening", w, 0, 1);
            Check.same("16", d.wallAt(w, 0), w / 2);
        }
    }

    private static void thereIsNoSuchOpening() {
        Subject d = started();
        for (int no : withAnother(1)) {
            for (int what = 0; what <= 2; what++) {
                Check.argument("17", d, "openingAt", no, what);
            }
        }
        for (int o = 0; o < 3; o += 2) {
            Check.same("17", d.openingAt(o, 0), o);
        }
    }

    private static int[] withAnother(int number) {
        int[] all = java.util.Arrays.copyOf(NO_SUCH, NO_SUCH.length + 1);
        all[NO_SUCH.length] = number;
        return all;
    }

    /** What is asked for has bounds: promises 14 and 15. */
    private static void whatHasBounds() {
        Subject d = started();
        for (int what : new int[] {LOW, LOW + 1, -1, 2, 3, 4, 256, 65536, HIGH - 1, HIGH}) {
            Check.argument("14", d, "acts", what);
        }
        for (int what : new int[] {LOW, LOW + 1, -1, 4, 5, 256, 65536, HIGH - 1, HIGH}) {
            Check.argument("15", d, "many", what);
        }
        Check.same("14: 0", d.acts(0), 13);
        Check.same("14: 1", d.acts(1), 2);
        for (int what = 0; what <= 3; what++) {
            Check.same("15: " + what, d.many(what), 3);
        }
    }

    /** The same: promises 16, 17, 18 and 19. */
    private static void whatHasBoundsThatDifferByThing() {
        Subject d = started();
        for (int what : new int[] {LOW, LOW + 1, -2, -1, 10, 11, 256, 65536, HIGH - 1, HIGH}) {
            Check.argument("16: there", d, "wallAt", 0, what);
            Check.argument("16: taken away", d, "wallAt", 1, what);
            Check.argument("17", d, "openingAt", 0, what);
            Check.argument("18", d, "storeyAt", 0, what);
            Check.argument("19", d, "typeAt", 0, what);
        }
        Check.argument("17: the first beyond", d, "openingAt", 0, 3);
        Check.argument("18: the first beyond", d, "storeyAt", 0, 4);
        Check.argument("19: the first beyond", d, "typeAt", 0, 3);
        Check.same("16: the last", d.wallAt(0, 9), 1);
        Check.same("17: the last", d.openingAt(0, 2), 10);
        Check.same("18: the last", d.storeyAt(0, 3), 100 * 100 - 10 * 100);
        Check.same("19: the last", d.typeAt(0, 2), 100);
    }

    private static void argumentsAllWrong() {
        Subject d = started();
        for (int n : new int[] {LOW, -1, HIGH}) {
            Check.argument("3", d, "level", n, n == -1 ? -1001 : n);
            Check.argument("5", d, "thickness", n, n);
            Check.argument("6", d, "wall", n, n, n, n, n, n);
            Check.argument("7", d, "move", n, n, n);
            Check.argument("8", d, "retype", n, n);
            Check.argument("10", d, "opening", n, n, n);
            Check.argument("16", d, "wallAt", n, n);
            Check.argument("17", d, "openingAt", n, n);
            Check.argument("18", d, "storeyAt", n, n);
            Check.argument("19", d, "typeAt", n, n);
            Check.argument("20", d, "body", n, n, n, n);
        }
    }

    /** Promise 1: "An empty drawing.": nothing is there that a call could name. */
    private static void anEmptyDrawing() {
        empty("new", new Subject());
        Subject d = new Subject();
        Check.accepted("1: a first storey", d, 0, "storey", -1000);
        Check.accepted("1: a first type", d, 0, "type", 2);
    }

    private static void backToAnEmptyDrawing() {
        Subject d = started();
        Check.yes("12: something", d.undo());
        while (d.acts(0) > 0) {
            Check.yes("12: back", d.undo());
        }
        empty("undone", d);
        Check.same("14: all can be done again", d.acts(1), 15);
    }

    private static void empty(String what, Subject d) {
        for (int n = 0; n <= 3; n++) {
            Check.same(what + ": many " + n, d.many(n), 0);
        }
        Check.same(what + ": done", d.acts(0), 0);
        Check.argument(what, d, "level", 0, 0);
        Check.argument(what, d, "thickness", 0, 10);
        Check.argument(what, d, "wall", 0, 0, 0, 0, 1, 0);
        Check.argument(what, d, "move", 0, 0, 0);
        Check.argument(what, d, "retype", 0, 0);
        Check.argument(what, d, "remove", 0);
        Check.argument(what, d, "opening", 0, 0, 1);
        Check.argument(what, d, "copy", 0, 1);
        Check.argument(what, d, "copy", 0, 0);
        for (int n = 0; n <= 9; n++) {
            Check.argument(what, d, "wallAt", 0, n);
            Check.argument(what, d, "openingAt", 0, n);
            Check.argument(what, d, "storeyAt", 0, n);
            Check.argument(what, d, "typeAt", 0, n);
        }
        Check.argument(what, d, "body", 0, 0, 0, 0);
    }

    /** Each kind of thing needs those before it: a storey alone or a type alone has no wall. */
    private static void things() {
        Subject d = new Subject();
        d.storey(0);
        Check.argument("6: no type", d, "wall", 0, 0, 0, 0, 1, 0);
        Check.argument("11: one storey", d, "copy", 0, 1);
        Check.argument("11: onto itself", d, "copy", 0, 0);
        d.undo();
        d.type(10);
        Check.argument("6: no storey", d, "wall", 0, 0, 0, 0, 1, 0);
        d.storey(0);
        Check.argument("10: no wall", d, "opening", 0, 0, 1);
        Check.same("20: no wall", d.body(0, 0, 0, 0), StoreyShapes.NONE);
        Check.same("18: no wall", d.storeyAt(0, 2), 0);
        Check.same("18: no area", d.storeyAt(0, 3), 0);
        Check.accepted("6: the first", d, 0, "wall", 0, 0, 0, 0, 1, 0);
    }

    /** Promise 2. */
    private static void argumentBeforeTooManyStoreys() {
        Subject d = started();
        for (int s = 3; s < 6; s++) {
            d.storey(400 + s);
        }
        d.level(0, -1);
        d.undo();
        Check.state("good, but there are 6", d, "storey", 406);
        Check.state("good, but there are 6", d, "storey", 10000);
        for (int level : new int[] {LOW, -1001, -1000, 0, 404, 405, 10001, HIGH}) {
            Check.argument("not good, and there are 6", d, "storey", level);
        }
        d.level(5, 10000);
        Check.argument("no level is left, and there are 6", d, "storey", 10000);
    }

    /** Promise 4. */
    private static void argumentBeforeTooManyTypes() {
        Subject d = started();
        for (int t = 3; t < 8; t++) {
            d.type(10);
        }
        d.level(0, -1);
        d.undo();
        Check.state("good, but there are 8", d, "type", 2);
        Check.state("good, but there are 8", d, "type", 100);
        for (int thickness : new int[] {LOW, -2, 0, 1, 3, 99, 101, 102, HIGH}) {
            Check.argument("not good, and there are 8", d, "type", thickness);
        }
    }

    /** Promise 6. */
    private static void argumentBeforeTooManyWalls() {
        Subject d = started();
        for (int w = 3; w < 40; w++) {
            d.wall(0, 0, 0, w, 1, w);
        }
        d.level(0, -1);
        d.undo();
        Check.state("good, but there are 40", d, "wall", 0, 0, 0, 0, 1, 0);
        Check.argument("no storey, and there are 40", d, "wall", 3, 0, 0, 0, 1, 0);
        Check.argument("no type, and there are 40", d, "wall", 0, 3, 0, 0, 1, 0);
        Check.argument("x0, and there are 40", d, "wall", 0, 0, -1001, 0, 1, 0);
        Check.argument("y0, and there are 40", d, "wall", 0, 0, 0, -1001, 0, 1);
        Check.argument("x1, and there are 40", d, "wall", 0, 0, 0, 0, 1001, 0);
        Check.argument("y1, and there are 40", d, "wall", 0, 0, 0, 0, 0, 1001);
        Check.argument("aslant, and there are 40", d, "wall", 0, 0, 0, 0, 1, 1);
        Check.argument("one place, and there are 40", d, "wall", 0, 0, 1, 1, 1, 1);
    }

    /** Promise 10. */
    private static void argumentBeforeOverlap() {
        Subject d = started();
        Check.state("good, but it overlaps", d, "opening", 0, 15, 85);
        Check.argument("ends behind, and overlaps", d, "opening", 0, 15, 86);
        Check.argument("begins before, and overlaps", d, "opening", 0, -1, 20);
        Check.argument("is not wide, within another", d, "opening", 0, 15, 0);
        Check.argument("is less than not wide, within another", d, "opening", 0, 15, -1);
        Check.argument("wraps round, and overlaps", d, "opening", 0, 15, HIGH);
        Check.argument("would overlap, but the wall is taken away", d, "opening", 1, 20, 10);
    }

    /** Promise 10. */
    private static void argumentBeforeTooManyOpenings() {
        Subject d = started();
        for (int o = 3; o < 60; o++) {
            d.opening(0, 20 + o, 1);
        }
        d.level(0, -1);
        d.undo();
        Check.state("good, but there are 60", d, "opening", 2, 0, 1);
        Check.state("overlaps, and there are 60", d, "opening", 0, 23, 1);
        Check.argument("no wall, and there are 60", d, "opening", 3, 0, 1);
        Check.argument("taken away, and there are 60", d, "opening", 1, 0, 1);
        Check.argument("begins before, and there are 60", d, "opening", 2, -1, 1);
        Check.argument("is not wide, and there are 60", d, "opening", 2, 0, 0);
        Check.argument("ends behind, and there are 60", d, "opening", 2, 99, 2);
    }

    /** Promise 11. */
    private static void argumentBeforeTooManyByCopy() {
        Subject d = started();
        for (int w = 3; w < 40; w++) {
            d.wall(0, 0, 0, w, 1, w);
        }
        d.level(0, -1);
        d.undo();
        Check.state("good, but 78 walls", d, "copy", 0, 1);
        Check.state("good, but 41 walls", d, "copy", 1, 0);
        Check.accepted("no wall more", d, 0, "copy", 2, 0);
        Check.argument("onto itself", d, "copy", 0, 0);
        Check.argument("from none", d, "copy", 3, 0);
        Check.argument("to none", d, "copy", 0, 3);
        Check.argument("to none", d, "copy", 0, -1);
    }

    /** "and for acts: 200 that are done are held" */
    private static void argumentBeforeTwoHundredActs() {
        Subject d = started();
        Check.fillHistory(d);
        Check.state("2", d, "storey", 401);
        Check.argument("2: not above", d, "storey", 400);
        Check.argument("2: too high", d, "storey", 10001);
        Check.state("3", d, "level", 1, 99);
        Check.argument("3: no storey", d, "level", 3, 99);
        Check.argument("3: as the one before", d, "level", 1, 0);
        Check.argument("3: as the next", d, "level", 1, 400);
        Check.state("4", d, "type", 10);
        Check.argument("4: odd", d, "type", 11);
        Check.state("5", d, "thickness", 0, 10);
        Check.argument("5: odd", d, "thickness", 0, 11);
        Check.argument("5: no type", d, "thickness", 3, 10);
        Check.state("6", d, "wall", 0, 0, 0, 0, 1, 0);
        Check.argument("6: aslant", d, "wall", 0, 0, 0, 0, 1, 1);
        Check.argument("6: no storey", d, "wall", 3, 0, 0, 0, 1, 0);
        Check.state("7", d, "move", 0, 900, 0);
        Check.argument("7: out of bounds", d, "move", 0, 901, 0);
        Check.argument("7: taken away", d, "move", 1, 0, 0);
        Check.state("8", d, "retype", 0, 1);
        Check.argument("8: no type", d, "retype", 0, 3);
        Check.argument("8: taken away", d, "retype", 1, 1);
        Check.state("9", d, "remove", 0);
        Check.argument("9: taken away", d, "remove", 1);
        Check.state("10", d, "opening", 0, 99, 1);
        Check.argument("10: ends behind", d, "opening", 0, 99, 2);
        Check.argument("10: taken away", d, "opening", 1, 0, 1);
        Check.state("11", d, "copy", 0, 1);
        Check.argument("11: onto itself", d, "copy", 1, 1);
        Check.argument("11: no storey", d, "copy", 0, 3);
        Check.yes("12: undo is no act", d.undo());
        Check.yes("13: nor is redo", d.redo());
    }

    /** Several illegal states at once are one exception. */
    private static void severalStates() {
        Subject d = started();
        for (int s = 3; s < 6; s++) {
            d.storey(400 + s);
        }
        for (int t = 3; t < 8; t++) {
            d.type(10);
        }
        for (int o = 3; o < 60; o++) {
            d.opening(0, 20 + o, 1);
        }
        for (int w = 3; w < 40; w++) {
            d.wall(0, 0, 0, w, 1, w);
        }
        Check.state("11: walls and openings", d, "copy", 0, 1);
        Check.fillHistory(d);
        Check.state("2: six and 200", d, "storey", 500);
        Check.state("4: eight and 200", d, "type", 10);
        Check.state("6: forty and 200", d, "wall", 0, 0, 0, 0, 1, 0);
        Check.state("10: overlaps, sixty and 200", d, "opening", 0, 23, 1);
        Check.state("11: walls, openings and 200", d, "copy", 0, 1);
        Check.argument("2: not above, six and 200", d, "storey", 0);
        Check.argument("4: odd, eight and 200", d, "type", 9);
        Check.argument("6: aslant, forty and 200", d, "wall", 0, 0, 0, 0, 1, 1);
        Check.argument("10: ends behind, overlaps, sixty and 200", d, "opening", 0, 23, 78);
        Check.argument("11: onto itself, walls, openings and 200", d, "copy", 0, 0);
    }
}
