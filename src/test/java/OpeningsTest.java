/** Promises 10 (opening) and 17 (openingAt). */
public final class OpeningsTest {
    public static void main(String[] args) {
        openings();
        refused();
        overlaps();
        sixty();
        manyActs();
        told();
        Check.end("OpeningsTest");
    }

    private static Subject started() {
        Subject d = new Subject();
        d.storey(0);
        d.type(10);
        d.wall(0, 0, 0, 0, 100, 0);
        d.wall(0, 0, 50, 60, 50, 0);
        return d;
    }

    private static void openings() {
        Subject d = started();
        Check.same("10: first number", d.opening(0, 0, 1), 0);
        Check.same("10: in the other", d.opening(1, 0, 60), 1);
        Check.same("10: up to the end", d.opening(0, 99, 1), 2);
        Check.same("10: between", d.opening(0, 1, 98), 3);
        Check.same("10: an act each", d.acts(0), 8);
        Check.same("10: many of a wall", d.wallAt(0, 9), 3);
        d.undo();
        Check.same("10: the number is free again", d.opening(0, 50, 2), 3);
        Check.same("10: new width", d.openingAt(3, 2), 2);
    }

    private static void refused() {
        Subject d = started();
        Check.argument("10: begins before", d, () -> d.opening(0, -1, 5));
        Check.argument("10: ends behind", d, () -> d.opening(0, 96, 5));
        Check.argument("10: begins at the end", d, () -> d.opening(0, 100, 1));
        Check.argument("10: too wide", d, () -> d.opening(0, 0, 101));
        Check.argument("10: too wide for the other", d, () -> d.opening(1, 0, 61));
        Check.argument("10: width 0", d, () -> d.opening(0, 5, 0));
        Check.argument("10: width -1", d, () -> d.opening(0, 5, -1));
        Check.argument("10: wraps round by width", d, () -> d.opening(0, 5, Integer.MAX_VALUE));
        Check.argument("10: wraps round by start", d, () -> d.opening(0, Integer.MAX_VALUE, Integer.MAX_VALUE));
        Check.argument("10: wall 2", d, () -> d.opening(2, 0, 1));
        Check.argument("10: wall -1", d, () -> d.opening(-1, 0, 1));
        d.remove(1);
        Check.argument("10: wall taken away", d, () -> d.opening(1, 0, 1));
    }

    private static void overlaps() {
        Subject d = started();
        d.opening(0, 20, 10);
        Check.state("10: the same", d, () -> d.opening(0, 20, 10));
        Check.state("10: within", d, () -> d.opening(0, 24, 2));
        Check.state("10: round it", d, () -> d.opening(0, 10, 50));
        Check.state("10: over its begin", d, () -> d.opening(0, 19, 2));
        Check.state("10: over its end", d, () -> d.opening(0, 29, 2));
        Check.argument("10: overlaps, but ends behind", d, () -> d.opening(0, 20, 81));
        Check.same("10: touches its begin", d.opening(0, 19, 1), 1);
        Check.same("10: touches its end", d.opening(0, 30, 1), 2);
        Check.same("10: the other wall", d.opening(1, 20, 10), 3);
    }

    private static void sixty() {
        Subject d = started();
        for (int o = 0; o < 60; o++) {
            Check.same("10: number", d.opening(o % 2, o / 2, 1), o);
        }
        Check.state("10: there are 60", d, () -> d.opening(0, 50, 1));
        Check.argument("10: 60, but behind", d, () -> d.opening(0, 100, 1));
        d.remove(1);
        Check.state("10: those of walls taken away count", d, () -> d.opening(0, 50, 1));
        d.undo();
        d.undo();
        Check.same("10: 59 and one more", d.opening(0, 50, 1), 59);
    }

    private static void manyActs() {
        Subject d = started();
        d.opening(0, 0, 10);
        Check.fillHistory(d);
        Check.state("10: 200 acts", d, () -> d.opening(0, 20, 1));
        Check.argument("10: 200 acts, but behind", d, () -> d.opening(0, 100, 1));
    }

    private static void told() {
        Subject d = started();
        d.opening(1, 7, 9);
        d.opening(0, 2, 3);
        Check.same("17: wall", d.openingAt(0, 0), 1);
        Check.same("17: begins", d.openingAt(0, 1), 7);
        Check.same("17: width", d.openingAt(0, 2), 9);
        Check.same("17: wall of the next", d.openingAt(1, 0), 0);
        Check.argument("17: what 3", d, () -> d.openingAt(0, 3));
        Check.argument("17: what -1", d, () -> d.openingAt(0, -1));
        Check.argument("17: opening 2", d, () -> d.openingAt(2, 0));
        Check.argument("17: opening 60", d, () -> d.openingAt(60, 0));
        Check.argument("17: opening -1", d, () -> d.openingAt(-1, 0));
        d.remove(1);
        Check.argument("17: of a wall taken away", d, () -> d.openingAt(0, 0));
        Check.same("17: the other is there", d.openingAt(1, 1), 2);
        d.undo();
        Check.same("17: there again", d.openingAt(0, 1), 7);
        d.undo();
        Check.argument("17: undone", d, () -> d.openingAt(1, 0));
    }
}
