/** Promises 4 (type), 5 (thickness) and 19 (typeAt). */
public final class TypesTest {
    public static void main(String[] args) {
        types();
        typeStates();
        thicknesses();
        thicknessRefused();
        told();
        toldRefused();
        Check.end("TypesTest");
    }

    private static void types() {
        Subject d = new Subject();
        Check.same("4: thinnest", d.type(2), 0);
        Check.same("4: thickest", d.type(100), 1);
        Check.same("4: the same again", d.type(100), 2);
        Check.same("4: an act each", d.acts(0), 3);
        int[] wrong = {Integer.MIN_VALUE, -2, -1, 0, 1, 3, 99, 101, 102, Integer.MAX_VALUE};
        for (int thickness : wrong) {
            Check.argument("4: thickness " + thickness, d, () -> d.type(thickness));
            Check.argument("5: thickness " + thickness, d, () -> d.thickness(0, thickness));
        }
        d.undo();
        Check.same("4: the number is free again", d.type(50), 2);
        Check.same("4: new thickness", d.typeAt(2, 0), 50);
    }

    private static void typeStates() {
        Subject d = new Subject();
        for (int t = 0; t < 8; t++) {
            Check.same("4: number", d.type(10), t);
        }
        Check.state("4: there are 8", d, () -> d.type(10));
        Check.argument("4: 8, but odd", d, () -> d.type(11));
        d.undo();
        Check.fillHistory(d);
        Check.state("4: 200 acts", d, () -> d.type(10));
        Check.argument("4: 200 acts, but odd", d, () -> d.type(11));
    }

    private static void thicknesses() {
        Subject d = new Subject();
        d.storey(0);
        d.type(10);
        d.type(20);
        d.wall(0, 0, 0, 0, 100, 0);
        d.wall(0, 1, 100, 0, 100, 50);
        d.wall(0, 1, 0, 0, 0, 50);
        Check.same("5: net before", d.wallAt(0, 7), 120);
        d.thickness(1, 2);
        Check.same("5: thickness", d.typeAt(1, 0), 2);
        Check.same("5: all walls of the type share it", d.wallAt(0, 7), 102);
        d.thickness(1, 100);
        Check.same("5: thickest", d.wallAt(0, 7), 200);
        Check.same("5: the other type stays", d.typeAt(0, 0), 10);
        int done = d.acts(0);
        d.thickness(1, 100);
        Check.same("5: the same thickness is an act", d.acts(0), done + 1);
    }

    private static void thicknessRefused() {
        Subject d = new Subject();
        Check.argument("5: no type yet", d, () -> d.thickness(0, 10));
        d.type(10);
        Check.argument("5: type 1", d, () -> d.thickness(1, 10));
        Check.argument("5: type -1", d, () -> d.thickness(-1, 10));
        Check.argument("5: type 8", d, () -> d.thickness(8, 10));
        Check.fillHistory(d);
        Check.state("5: 200 acts", d, () -> d.thickness(0, 10));
        Check.argument("5: 200 acts, but odd", d, () -> d.thickness(0, 9));
        Check.argument("5: 200 acts, but no type", d, () -> d.thickness(1, 10));
    }

    private static void told() {
        Subject d = new Subject();
        d.storey(0);
        d.storey(100);
        d.type(10);
        d.type(20);
        d.wall(0, 0, 0, 0, 100, 0);
        d.wall(0, 1, 100, 0, 100, 50);
        d.wall(1, 0, 0, 0, 30, 0);
        Check.same("19: thickness", d.typeAt(1, 0), 20);
        Check.same("19: walls on all storeys", d.typeAt(0, 1), 2);
        Check.same("19: walls", d.typeAt(1, 1), 1);
        Check.same("19: net lengths", d.typeAt(0, 2), 110 + 30);
        Check.same("19: net length", d.typeAt(1, 2), 45);
        d.remove(0);
        Check.same("19: walls that are there", d.typeAt(0, 1), 1);
        Check.same("19: their net lengths", d.typeAt(0, 2), 30);
        Check.same("19: no join with what is gone", d.typeAt(1, 2), 50);
        d.retype(2, 1);
        Check.same("19: none", d.typeAt(0, 1), 0);
        Check.same("19: no net length", d.typeAt(0, 2), 0);
        Check.same("19: retyped", d.typeAt(1, 2), 80);
    }

    private static void toldRefused() {
        Subject d = new Subject();
        d.type(10);
        Check.argument("19: what 3", d, () -> d.typeAt(0, 3));
        Check.argument("19: what -1", d, () -> d.typeAt(0, -1));
        Check.argument("19: type 1", d, () -> d.typeAt(1, 0));
        Check.argument("19: type 8", d, () -> d.typeAt(8, 0));
        Check.argument("19: type -1", d, () -> d.typeAt(-1, 0));
        d.undo();
        Check.argument("19: type undone", d, () -> d.typeAt(0, 0));
    }
}
