/** Promises 2 (storey), 3 (level) and 18 (storeyAt). */
public final class StoreysTest {
    public static void main(String[] args) {
        storeys();
        storeyBounds();
        storeyStates();
        levels();
        levelRefused();
        told();
        toldRefused();
        Check.end("StoreysTest");
    }

    private static void storeys() {
        Subject d = new Subject();
        Check.same("2: first number", d.storey(-5), 0);
        Check.same("2: second number", d.storey(-4), 1);
        Check.same("2: an act each", d.acts(0), 2);
        Check.same("2: level", d.storeyAt(0, 0), -5);
        Check.argument("2: same level", d, () -> d.storey(-4));
        Check.argument("2: below", d, () -> d.storey(-5));
        Check.yes("2: undone", d.undo());
        Check.same("2: the number is free again", d.storey(-3), 1);
        Check.same("2: new level", d.storeyAt(1, 0), -3);
    }

    private static void storeyBounds() {
        Subject d = new Subject();
        Check.argument("2: too low", d, () -> d.storey(-1001));
        Check.argument("2: far too low", d, () -> d.storey(Integer.MIN_VALUE));
        Check.argument("2: too high", d, () -> d.storey(10001));
        Check.argument("2: far too high", d, () -> d.storey(Integer.MAX_VALUE));
        Check.same("2: lowest", d.storey(-1000), 0);
        Check.same("2: highest", d.storey(10000), 1);
        Check.argument("2: none above the highest", d, () -> d.storey(10000));
    }

    private static void storeyStates() {
        Subject d = new Subject();
        for (int s = 0; s < 6; s++) {
            Check.same("2: number", d.storey(s * 10), s);
        }
        Check.state("2: there are 6", d, () -> d.storey(51));
        Check.argument("2: 6, but not above", d, () -> d.storey(50));
        Check.argument("2: 6, but out of bounds", d, () -> d.storey(10001));
        d.undo();
        d.type(10);
        Check.fillHistory(d);
        Check.state("2: 200 acts", d, () -> d.storey(50));
        Check.argument("2: 200 acts, but not above", d, () -> d.storey(40));
    }

    private static void levels() {
        Subject d = new Subject();
        d.storey(0);
        d.storey(100);
        d.storey(200);
        d.level(1, 1);
        Check.same("3: just above the one before", d.storeyAt(1, 0), 1);
        d.level(1, 199);
        Check.same("3: just below the next", d.storeyAt(1, 0), 199);
        Check.same("3: height below", d.storeyAt(0, 1), 199);
        d.level(0, -1000);
        d.level(2, 10000);
        Check.same("3: lowest", d.storeyAt(0, 0), -1000);
        Check.same("3: highest", d.storeyAt(2, 0), 10000);
        Check.same("3: acts", d.acts(0), 7);
        d.level(1, 199);
        Check.same("3: the same level is an act", d.acts(0), 8);
    }

    private static void levelRefused() {
        Subject d = new Subject();
        d.storey(0);
        d.storey(100);
        d.storey(200);
        Check.argument("3: as the one before", d, () -> d.level(1, 0));
        Check.argument("3: as the next", d, () -> d.level(1, 200));
        Check.argument("3: below the one before", d, () -> d.level(2, 99));
        Check.argument("3: above the next", d, () -> d.level(0, 101));
        Check.argument("3: too low", d, () -> d.level(0, -1001));
        Check.argument("3: too high", d, () -> d.level(2, 10001));
        Check.argument("3: no storey 3", d, () -> d.level(3, 300));
        Check.argument("3: no storey -1", d, () -> d.level(-1, 300));
        Check.argument("3: no such storey", d, () -> d.level(Integer.MAX_VALUE, 300));
        d.type(10);
        Check.fillHistory(d);
        Check.state("3: 200 acts", d, () -> d.level(1, 50));
        Check.argument("3: 200 acts, but out of bounds", d, () -> d.level(1, 200));
    }

    private static void told() {
        Subject d = new Subject();
        d.storey(-100);
        d.storey(50);
        d.type(20);
        Check.same("18: level", d.storeyAt(0, 0), -100);
        Check.same("18: height", d.storeyAt(0, 1), 150);
        Check.same("18: height of the highest", d.storeyAt(1, 1), 300);
        Check.same("18: no walls", d.storeyAt(0, 2), 0);
        Check.same("18: no area", d.storeyAt(0, 3), 0);
        d.wall(0, 0, 0, 0, 10, 0);
        d.wall(0, 0, 50, 0, 50, 20);
        d.wall(1, 0, 0, 0, 7, 0);
        d.opening(1, 0, 4);
        Check.same("18: walls", d.storeyAt(0, 2), 2);
        Check.same("18: area below 200 of height", d.storeyAt(0, 3), 10 * 150 + 20 * 150 - 4 * 150);
        Check.same("18: area of the other", d.storeyAt(1, 3), 7 * 300);
        d.level(1, 200);
        Check.same("18: area at 300 of height", d.storeyAt(0, 3), 10 * 300 + 20 * 300 - 4 * 200);
        d.remove(1);
        Check.same("18: walls that are there", d.storeyAt(0, 2), 1);
        Check.same("18: area that is there", d.storeyAt(0, 3), 3000);
        d.storey(201);
        Check.same("18: height with one above", d.storeyAt(1, 1), 1);
        d.undo();
        Check.same("18: highest again", d.storeyAt(1, 1), 300);
    }

    private static void toldRefused() {
        Subject d = new Subject();
        d.storey(0);
        Check.argument("18: what 4", d, () -> d.storeyAt(0, 4));
        Check.argument("18: what -1", d, () -> d.storeyAt(0, -1));
        Check.argument("18: storey 1", d, () -> d.storeyAt(1, 0));
        Check.argument("18: storey 6", d, () -> d.storeyAt(6, 0));
        Check.argument("18: storey -1", d, () -> d.storeyAt(-1, 0));
        d.undo();
        Check.argument("18: storey undone", d, () -> d.storeyAt(0, 0));
    }
}
