/** The sentences under JOINS, A STOREY'S HEIGHT, AREA and BODY that name a bound. */
public final class MeasureBoundsTest {
    private static final int NONE = StoreyShapes.NONE;

    public static void main(String[] args) {
        joinsAreOfTheSameStorey();
        joinsAreWithWhatIsThere();
        joinsGoTheOtherWay();
        joinsAreAtTheSamePlace();
        joinsAtEachOfFourEnds();
        joinsWithTheLeastNumber();
        joinsByNumber();
        joinsByHalfOfTheOther();
        netLengthAt0AndBelow();
        netLengthsTogetherAt0AndBelow();
        heightOfTheHighest();
        heightOfTheOthers();
        areaAboutAHeightOf200();
        areaOfTheHighest();
        areaAt0AndBelow();
        areaByOpenings();
        areasOfTheGreatest();
        bodyAcross();
        bodyAtTheEnds();
        bodyHasNoJoins();
        bodyOfTheThinnestAndThickest();
        bodyBeyondTheBounds();
        bodyOfTheKth();
        Check.end("MeasureBoundsTest");
    }

    /** Two storeys, types 10, 2 and 100 thick. */
    private static Subject started() {
        Subject d = new Subject();
        d.storey(0);
        d.storey(250);
        d.type(10);
        d.type(2);
        d.type(100);
        return d;
    }

    private static void net(String what, Subject d, int wall, long due) {
        Check.same(what, d.wallAt(wall, 7), due);
    }

    /** "of the walls of its storey" */
    private static void joinsAreOfTheSameStorey() {
        Subject d = started();
        d.wall(0, 0, 0, 0, 100, 0);
        d.wall(1, 2, 0, 0, 0, 50);
        net("not with the storey above", d, 0, 100);
        net("not with the storey below", d, 1, 50);
        d.wall(0, 2, 0, 0, 0, 50);
        net("with its own", d, 0, 150);
        net("and the other", d, 2, 45);
    }

    /** "that are there" */
    private static void joinsAreWithWhatIsThere() {
        Subject d = started();
        d.wall(0, 0, 0, 0, 100, 0);
        d.wall(0, 2, 0, 0, 0, 50);
        d.wall(0, 1, 0, 0, 0, -50);
        net("with the first", d, 0, 150);
        d.remove(1);
        net("then with the second", d, 0, 101);
        d.remove(2);
        net("then with none", d, 0, 100);
        d.undo();
        net("again with the second", d, 0, 101);
        d.undo();
        net("again with the first", d, 0, 150);
        d.remove(0);
        net("the other is as long as it is drawn", d, 1, 50);
        d.undo();
        net("and joins again", d, 1, 45);
        d.undo();
        d.undo();
        net("what is undone is not there", d, 0, 100);
        d.redo();
        net("what is done again is", d, 0, 150);
    }

    /** "go the other way (x against y)" */
    private static void joinsGoTheOtherWay() {
        Subject d = started();
        d.wall(0, 2, -50, 0, 0, 0);
        d.wall(0, 0, 0, 0, 100, 0);
        d.wall(0, 2, 150, 0, 100, 0);
        d.wall(0, 2, 0, 0, 100, 0);
        for (int wall = 0; wall < 4; wall++) {
            net("along x in a row", d, wall, d.wallAt(wall, 6));
        }
        d.wall(0, 0, 500, 0, 500, 100);
        d.wall(0, 2, 500, 100, 500, 200);
        d.wall(0, 2, 500, 0, 500, -50);
        for (int wall = 4; wall < 7; wall++) {
            net("along y in a row", d, wall, d.wallAt(wall, 6));
        }
        d.wall(0, 1, 0, 0, 0, 9);
        net("the one across joins, though of a greater number", d, 1, 101);
    }

    /** "and have an end at the same place" */
    private static void joinsAreAtTheSamePlace() {
        Subject d = started();
        d.wall(0, 0, 0, 0, 100, 0);
        d.wall(0, 2, 0, 1, 0, 50);
        d.wall(0, 2, -1, 0, -1, 50);
        d.wall(0, 2, 1, 0, 1, 50);
        d.wall(0, 2, 100, -1, 100, -50);
        d.wall(0, 2, 101, 0, 101, 50);
        d.wall(0, 2, 50, 0, 50, 50);
        d.wall(0, 2, 100, 30, 100, -30);
        for (int wall = 0; wall < 8; wall++) {
            net("one off, or an end on a line", d, wall, d.wallAt(wall, 6));
        }
        d.move(1, 0, -1);
        net("moved to the place", d, 0, 150);
        d.move(1, 0, -49);
        net("with its other end, too", d, 0, 150);
        d.move(1, 0, -1);
        net("moved beyond", d, 0, 100);
    }

    /** "at each end of a wall", whichever of its ends the other one has there. */
    private static void joinsAtEachOfFourEnds() {
        int[][] first = {{0, 0, 100, 0}, {100, 0, 0, 0}, {0, 0, 0, 100}, {0, 100, 0, 0}};
        for (int[] w : first) {
            boolean alongX = w[1] == w[3];
            for (int end = 0; end <= 100; end += 100) {
                int x = alongX ? end : 0;
                int y = alongX ? 0 : end;
                for (int far = -40; far <= 40; far += 80) {
                    int farX = alongX ? x : far;
                    int farY = alongX ? far : y;
                    joinAt(w, new int[] {x, y, farX, farY});
                    joinAt(w, new int[] {farX, farY, x, y});
                }
            }
        }
        Subject d = started();
        d.wall(0, 0, 0, 0, 100, 0);
        d.wall(0, 2, 0, 0, 0, 40);
        d.wall(0, 1, 100, 0, 100, 40);
        net("both ends", d, 0, 100 + 50 + 1);
    }

    private static void joinAt(int[] w, int[] v) {
        Subject d = started();
        d.wall(0, 0, w[0], w[1], w[2], w[3]);
        d.wall(0, 2, v[0], v[1], v[2], v[3]);
        net("the first ends later", d, 0, 150);
        net("the second ends earlier", d, 1, 35);
    }

    /** "the one of least number" */
    private static void joinsWithTheLeastNumber() {
        Subject d = started();
        d.wall(0, 1, 0, 0, 0, 50);
        d.wall(0, 2, 0, 0, 0, -50);
        d.wall(0, 0, 0, 0, 100, 0);
        d.wall(0, 2, 100, 50, 100, 0);
        d.wall(0, 1, 100, 0, 100, -50);
        net("less: with 0, not with 1; greater: with 3, not with 4", d, 2, 100 - 1 + 50);
        d.retype(0, 0);
        net("by its type now", d, 2, 100 - 5 + 50);
        d.remove(3);
        net("then with 4", d, 2, 100 - 5 + 1);
        d.remove(0);
        net("then with 1", d, 2, 100 - 50 + 1);
        d.wall(0, 2, 100, 0, 100, 1);
        net("a greater one changes nothing", d, 2, 100 - 50 + 1);
        d.remove(1);
        d.wall(0, 0, 0, 0, 0, 1);
        net("a greater one where a less one was", d, 2, 100 + 5 + 1);
    }

    /** "if its number is less than the wall's, .. earlier there; if it is greater, half of it later" */
    private static void joinsByNumber() {
        Subject d = started();
        d.wall(0, 0, 0, 0, 100, 0);
        d.wall(0, 0, 100, 0, 100, 100);
        d.wall(0, 0, 100, 100, 0, 100);
        d.wall(0, 0, 0, 100, 0, 0);
        net("both greater", d, 0, 110);
        net("less and greater", d, 1, 100);
        net("less and greater", d, 2, 100);
        net("both less", d, 3, 90);
        Check.same("19: together", d.typeAt(0, 2), 400);
    }

    /** "half of that one's thickness", not of its own. */
    private static void joinsByHalfOfTheOther() {
        Subject d = started();
        d.wall(0, 1, 0, 0, 100, 0);
        d.wall(0, 2, 0, 0, 0, 100);
        net("50 later", d, 0, 150);
        net("1 earlier", d, 1, 99);
        d.thickness(1, 100);
        net("50 earlier", d, 1, 50);
        net("its own does not count", d, 0, 150);
        d.thickness(2, 2);
        net("1 later", d, 0, 101);
        d.thickness(2, 6);
        net("3 later", d, 0, 103);
    }

    /** "NET LENGTH is its length with these; it may come below 0." */
    private static void netLengthAt0AndBelow() {
        Subject d = started();
        d.wall(0, 2, 0, 0, 0, 400);
        d.wall(0, 0, 0, 0, 51, 0);
        d.wall(0, 0, 0, 400, 50, 400);
        net("1 is left", d, 1, 1);
        net("nothing is left", d, 2, 0);
        d.wall(1, 2, 0, 0, 0, 400);
        d.wall(1, 0, 0, 0, 49, 0);
        net("1 below 0", d, 4, -1);
        Check.same("length stays", d.wallAt(4, 6), 49);
        d.wall(1, 2, 1, 400, 1, 0);
        d.wall(1, 0, 0, 400, 1, 400);
        net("the shortest between the thickest", d, 6, 1 - 50 - 50);
    }

    /** Promise 19: "their net lengths together", of none and below 0. */
    private static void netLengthsTogetherAt0AndBelow() {
        Subject d = started();
        Check.same("19: no walls", d.typeAt(0, 1), 0);
        Check.same("19: none together", d.typeAt(0, 2), 0);
        d.wall(0, 2, 0, 0, 0, 400);
        d.wall(0, 0, 0, 0, 1, 0);
        d.wall(0, 0, 0, 400, 49, 400);
        Check.same("19: below 0", d.typeAt(0, 2), -49 - 1);
        d.wall(1, 0, 0, 0, 50, 0);
        Check.same("19: at 0, of two storeys", d.typeAt(0, 2), 0);
        Check.same("19: three walls", d.typeAt(0, 1), 3);
        Check.same("19: the thick one", d.typeAt(2, 2), 400 + 5 + 5);
    }

    /** "of the highest one 300" */
    private static void heightOfTheHighest() {
        Subject d = new Subject();
        d.storey(10000);
        Check.same("18: of the only one", d.storeyAt(0, 1), 300);
        d.level(0, -1000);
        Check.same("18: wherever it is", d.storeyAt(0, 1), 300);
        for (int s = 1; s < 6; s++) {
            d.storey(s * 7);
            Check.same("18: of the highest", d.storeyAt(s, 1), 300);
            Check.same("18: no more of the one below", d.storeyAt(s - 1, 1), s == 1 ? 1007 : 7);
        }
        d.undo();
        Check.same("18: the highest again", d.storeyAt(4, 1), 300);
        d.redo();
        Check.same("18: the highest no more", d.storeyAt(4, 1), 7);
    }

    /** "A STOREY'S HEIGHT is the level of the next one less its own" */
    private static void heightOfTheOthers() {
        Subject d = new Subject();
        d.storey(-1000);
        d.storey(-999);
        Check.same("18: least", d.storeyAt(0, 1), 1);
        d.level(1, 10000);
        Check.same("18: most", d.storeyAt(0, 1), 11000);
        d.level(0, 9999);
        Check.same("18: least above", d.storeyAt(0, 1), 1);
        d.level(0, 0);
        d.level(1, 300);
        Check.same("18: as the highest", d.storeyAt(0, 1), 300);
        d.level(1, 301);
        Check.same("18: more than the highest", d.storeyAt(0, 1), 301);
    }

    /** "less its openings' widths times the lesser of that height and 200" */
    private static void areaAboutAHeightOf200() {
        Subject d = started();
        d.wall(0, 0, 0, 0, 100, 0);
        d.opening(0, 0, 30);
        for (int height : new int[] {1, 2, 199, 200, 201, 202, 299, 300, 301, 10000}) {
            d.level(1, height);
            long due = 100L * height - 30L * (height < 200 ? height : 200);
            Check.same("16: area at a height of " + height, d.wallAt(0, 8), due);
            Check.same("18: area at a height of " + height, d.storeyAt(0, 3), due);
        }
    }

    private static void areaOfTheHighest() {
        Subject d = started();
        d.wall(1, 0, 0, 0, 100, 0);
        Check.same("16: without openings", d.wallAt(0, 8), 30000);
        d.opening(0, 0, 100);
        Check.same("16: 300 less 200", d.wallAt(0, 8), 10000);
        d.storey(251);
        Check.same("16: 1 less 1", d.wallAt(0, 8), 0);
        d.undo();
        Check.same("16: the highest again", d.wallAt(0, 8), 10000);
    }

    /** "it may come below 0" */
    private static void areaAt0AndBelow() {
        Subject d = started();
        d.wall(0, 2, 0, 0, 0, 400);
        d.wall(0, 0, 0, 0, 50, 0);
        Check.same("16: at 0", d.wallAt(1, 8), 0);
        d.move(1, 0, 400);
        d.opening(1, 0, 1);
        Check.same("16: below 0 by an opening", d.wallAt(1, 8), -200);
        d.wall(0, 0, 0, 0, 49, 0);
        Check.same("16: below 0 by its net length", d.wallAt(2, 8), -250);
        d.opening(2, 0, 49);
        Check.same("16: and by both", d.wallAt(2, 8), -250 - 49 * 200);
        Check.same("18: with the thick one", d.storeyAt(0, 3), 410 * 250 - 200 - 250 - 49 * 200);
        d.remove(0);
        Check.same("16: no more below 0", d.wallAt(2, 8), 49 * 250 - 49 * 200);
        d.undo();
        d.level(1, 1);
        Check.same("18: of a height of 1", d.storeyAt(0, 3), 410 - 1 - 1 - 49);
    }

    private static void areaByOpenings() {
        Subject d = started();
        d.wall(0, 2, 0, 0, 0, 40);
        d.wall(0, 2, 49, 0, 49, 40);
        d.wall(0, 0, 0, 0, 49, 0);
        d.opening(2, 0, 20);
        d.opening(2, 20, 29);
        d.opening(0, 0, 7);
        Check.same("16: openings", d.wallAt(2, 9), 2);
        Check.same("16: area", d.wallAt(2, 8), (49 - 100) * 250 - 49 * 200);
        d.level(1, 100);
        Check.same("16: area of a height of 100", d.wallAt(2, 8), (49 - 100) * 100 - 49 * 100);
        Check.same("18: all below 0 together", d.storeyAt(0, 3), -10000 + (45 - 7) * 100 + 45 * 100);
    }

    /** The greatest that can be: 40 walls of 2000, 11000 high; and with joins of 50 at both ends. */
    private static void areasOfTheGreatest() {
        Subject d = new Subject();
        d.storey(-1000);
        d.storey(10000);
        d.type(100);
        for (int w = 0; w < 40; w++) {
            d.wall(0, 0, -1000, w, 1000, w);
        }
        Check.same("18: area", d.storeyAt(0, 3), 40L * 2000 * 11000);
        Check.same("19: net lengths", d.typeAt(0, 2), 80000);
        for (int n = 0; n < 38; n++) {
            d.undo();
        }
        d.remove(1);
        d.wall(0, 0, -1000, 0, -1000, 1000);
        d.wall(0, 0, 1000, -1000, 1000, 0);
        Check.same("16: net length", d.wallAt(0, 7), 2100);
        Check.same("16: area", d.wallAt(0, 8), 2100L * 11000);
        d.opening(0, 0, 2000);
        Check.same("16: with an opening all along", d.wallAt(0, 8), 2100L * 11000 - 2000 * 200);
    }

    private static void body(String what, Subject d, int x, int y, int due) {
        Check.same("20: " + what + " at " + x + ", " + y, d.body(0, x, y, 0), due);
    }

    /** "all places not farther than half its thickness from its line" */
    private static void bodyAcross() {
        Subject d = started();
        d.wall(0, 0, 0, 0, 100, 0);
        d.wall(0, 0, 500, 100, 500, 0);
        for (int off = -7; off <= 7; off++) {
            boolean within = off >= -5 && off <= 5;
            for (int at = 0; at <= 100; at += 25) {
                body("along x", d, at, off, within ? 0 : NONE);
                body("along y", d, 500 + off, at, within ? 1 : NONE);
            }
        }
    }

    /** "between its ends (..; nothing beyond the ends)" */
    private static void bodyAtTheEnds() {
        Subject d = started();
        d.wall(0, 0, 0, 0, 100, 0);
        d.wall(0, 0, 500, 100, 500, 0);
        for (int at = -2; at <= 102; at++) {
            boolean within = at >= 0 && at <= 100;
            for (int off = -5; off <= 5; off += 5) {
                body("along x", d, at, off, within ? 0 : NONE);
                body("along y", d, 500 + off, at, within ? 1 : NONE);
            }
        }
        body("far beyond", d, -1000, 0, NONE);
        body("far beyond", d, 1000, 0, NONE);
        body("far beyond", d, 500, -1000, NONE);
        body("far beyond", d, 500, 1000, NONE);
    }

    /** "no joins" */
    private static void bodyHasNoJoins() {
        Subject d = started();
        d.wall(0, 0, 0, 0, 100, 0);
        d.wall(0, 2, 100, 0, 100, 100);
        net("joins later", d, 0, 150);
        body("not where it ends later", d, 101, -1, NONE);
        body("not there", d, 120, -3, NONE);
        body("at its end", d, 100, -5, 0);
        net("joins earlier", d, 1, 95);
        body("also where it ends earlier", d, 60, 0, 0);
        Check.same("20: both have that place", d.body(0, 60, 0, 1), 1);
        body("and that", d, 110, 0, 1);
        body("not below", d, 110, -1, NONE);
    }

    private static void bodyOfTheThinnestAndThickest() {
        Subject d = started();
        d.wall(0, 1, 0, 0, 1, 0);
        d.wall(0, 2, 500, 0, 500, 1);
        body("thin", d, 0, 1, 0);
        body("thin", d, 1, -1, 0);
        body("beside the thin one", d, 0, 2, NONE);
        body("beside the thin one", d, 1, -2, NONE);
        body("beyond the thin one", d, 2, 0, NONE);
        body("beyond the thin one", d, -1, 0, NONE);
        body("thick", d, 550, 0, 1);
        body("thick", d, 450, 1, 1);
        body("beside the thick one", d, 551, 0, NONE);
        body("beside the thick one", d, 449, 1, NONE);
        body("beyond the thick one", d, 500, 2, NONE);
        body("beyond the thick one", d, 500, -1, NONE);
        d.thickness(1, 4);
        body("no more so thin", d, 0, 2, 0);
        d.undo();
        body("thin again", d, 0, 2, NONE);
    }

    /** "coordinates in their bounds", of a body that lies about the bounds. */
    private static void bodyBeyondTheBounds() {
        Subject d = started();
        d.wall(0, 2, -1000, 1000, 1000, 1000);
        d.wall(0, 2, -1000, -1000, -1000, 1000);
        body("at the corner", d, 1000, 1000, 0);
        body("half below", d, 1000, 950, 0);
        body("farther below", d, 1000, 949, NONE);
        body("at the other corner", d, -1000, -1000, 1);
        body("half beside", d, -950, -1000, 1);
        body("farther beside", d, -949, -1000, NONE);
        Check.same("20: both", d.body(0, -1000, 1000, 1), 1);
        Check.argument("20: x above", d, "body", 0, 1001, 1000, 0);
        Check.argument("20: y above", d, "body", 0, 1000, 1001, 0);
        Check.argument("20: x below", d, "body", 0, -1001, 1000, 0);
        Check.argument("20: y below", d, "body", 0, -1000, -1001, 0);
        for (int far : new int[] {Integer.MIN_VALUE, Integer.MIN_VALUE + 1, Integer.MAX_VALUE - 1, Integer.MAX_VALUE}) {
            Check.argument("20: x far off", d, "body", 0, far, 1000, 0);
            Check.argument("20: y far off", d, "body", 0, -1000, far, 0);
        }
    }

    /** Promise 20: "The k-th wall (0 the least number) ..; NONE if there is none such. .. also if k is below 0." */
    private static void bodyOfTheKth() {
        Subject d = new Subject();
        d.storey(0);
        d.storey(1);
        d.type(2);
        Check.same("20: no walls", d.body(0, 0, 0, 0), NONE);
        for (int w = 0; w < 40; w++) {
            d.wall(w % 4 == 3 ? 1 : 0, 0, 0, 0, 10, 0);
        }
        for (int k = 0; k < 30; k++) {
            Check.same("20: k = " + k, d.body(0, 5, 0, k), k / 3 * 4 + k % 3);
        }
        Check.same("20: k = 30, first without one", d.body(0, 5, 0, 30), NONE);
        Check.same("20: k = 9 of the other, the last one", d.body(1, 5, 0, 9), 39);
        Check.same("20: k = 10 of the other, without one", d.body(1, 5, 0, 10), NONE);
        Check.same("20: the most", d.body(0, 5, 0, Integer.MAX_VALUE), NONE);
        Check.argument("20: k = -1", d, "body", 0, 5, 0, -1);
        Check.argument("20: k = -1 where there is none", d, "body", 0, 500, 0, -1);
        Check.argument("20: the least", d, "body", 0, 5, 0, Integer.MIN_VALUE);
        d.remove(0);
        Check.same("20: without the one taken away", d.body(0, 5, 0, 0), 1);
        Check.same("20: one fewer", d.body(0, 5, 0, 29), NONE);
        Check.same("20: the last", d.body(0, 5, 0, 28), 38);
    }
}
