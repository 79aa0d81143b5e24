/** Promise 20 (body). */
public final class BodyTest {
    public static void main(String[] args) {
        alongX();
        alongY();
        theKth();
        atTheBounds();
        refused();
        Check.end("BodyTest");
    }

    private static Subject started() {
        Subject d = new Subject();
        d.storey(0);
        d.storey(100);
        d.type(10);
        d.type(2);
        return d;
    }

    private static void at(String what, Subject d, int x, int y, int due) {
        Check.same("20: " + what, d.body(0, x, y, 0), due);
    }

    private static void alongX() {
        Subject d = started();
        d.wall(0, 0, 40, 7, 10, 7);
        at("on the line", d, 20, 7, 0);
        at("first place", d, 40, 7, 0);
        at("second place", d, 10, 7, 0);
        at("beyond the first", d, 41, 7, StoreyShapes.NONE);
        at("beyond the second", d, 9, 7, StoreyShapes.NONE);
        at("half above", d, 20, 12, 0);
        at("half below", d, 20, 2, 0);
        at("farther above", d, 20, 13, StoreyShapes.NONE);
        at("farther below", d, 20, 1, StoreyShapes.NONE);
        at("corner", d, 40, 12, 0);
        at("beyond the corner", d, 41, 12, StoreyShapes.NONE);
        d.thickness(0, 12);
        at("thicker", d, 20, 13, 0);
        d.retype(0, 1);
        at("thinner", d, 20, 9, StoreyShapes.NONE);
        at("thin", d, 20, 8, 0);
        d.move(0, 0, 1);
        at("moved", d, 20, 9, 0);
        d.wall(0, 0, 40, 8, 40, 28);
        at("joins do not count", d, 45, 8, 1);
        at("nor shorten", d, 40, 8, 0);
        at("nor make longer", d, 40, 7, 0);
        at("beyond the end of the other", d, 44, 7, StoreyShapes.NONE);
    }

    private static void alongY() {
        Subject d = started();
        d.wall(0, 0, -3, -20, -3, -5);
        at("first place", d, -3, -20, 0);
        at("second place", d, -3, -5, 0);
        at("beyond the first", d, -3, -21, StoreyShapes.NONE);
        at("beyond the second", d, -3, -4, StoreyShapes.NONE);
        at("half right", d, 2, -10, 0);
        at("half left", d, -8, -10, 0);
        at("farther right", d, 3, -10, StoreyShapes.NONE);
        at("farther left", d, -9, -10, StoreyShapes.NONE);
        Check.same("20: the other storey", d.body(1, -3, -10, 0), StoreyShapes.NONE);
    }

    private static void theKth() {
        Subject d = started();
        d.wall(0, 0, 0, 0, 50, 0);
        d.wall(1, 0, 0, 0, 50, 0);
        d.wall(0, 0, 0, 30, 50, 30);
        d.wall(0, 0, 20, -10, 20, 10);
        d.wall(0, 0, 0, 1, 50, 1);
        int[] due = {0, 3, 4, StoreyShapes.NONE, StoreyShapes.NONE};
        for (int k = 0; k < due.length; k++) {
            Check.same("20: k = " + k, d.body(0, 20, 0, k), due[k]);
        }
        Check.same("20: k far off", d.body(0, 20, 0, Integer.MAX_VALUE), StoreyShapes.NONE);
        d.remove(0);
        Check.same("20: without the one taken away", d.body(0, 20, 0, 0), 3);
        Check.same("20: the next", d.body(0, 20, 0, 1), 4);
        Check.same("20: on the other storey", d.body(1, 20, 0, 0), 1);
        d.undo();
        Check.same("20: there again", d.body(0, 20, 0, 0), 0);
    }

    private static void atTheBounds() {
        Subject d = started();
        d.wall(0, 0, 1000, 1000, 1000, -1000);
        d.wall(0, 0, -1000, -1000, 1000, -1000);
        Check.same("20: corner", d.body(0, 1000, 1000, 0), 0);
        Check.same("20: both", d.body(0, 1000, -1000, 1), 1);
        Check.same("20: other corner", d.body(0, -1000, -1000, 0), 1);
        Check.same("20: none", d.body(0, -1000, 1000, 0), StoreyShapes.NONE);
    }

    private static void refused() {
        Subject d = started();
        d.wall(0, 0, 1000, 1000, 1000, -1000);
        Check.argument("20: x high", d, () -> d.body(0, 1001, 0, 0));
        Check.argument("20: x low", d, () -> d.body(0, -1001, 0, 0));
        Check.argument("20: y high", d, () -> d.body(0, 0, 1001, 0));
        Check.argument("20: y low", d, () -> d.body(0, 0, -1001, 0));
        Check.argument("20: k below 0", d, () -> d.body(0, 0, 0, -1));
        Check.argument("20: k far below 0", d, () -> d.body(0, 0, 0, Integer.MIN_VALUE));
        Check.argument("20: storey 2", d, () -> d.body(2, 0, 0, 0));
        Check.argument("20: storey -1", d, () -> d.body(-1, 0, 0, 0));
    }
}
