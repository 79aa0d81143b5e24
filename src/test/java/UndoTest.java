/** Promises 12 (undo), 13 (redo), 14 (acts) and 15 (many). */
public final class UndoTest {
    public static void main(String[] args) {
        everyActThereAndBack();
        dropped();
        refusedKeeps();
        numbersAreFreeAgain();
        twoHundred();
        actsRefused();
        counts();
        Check.end("UndoTest");
    }

    /** Does the n-th act of a run that has every kind of them. */
    private static void act(Subject d, int n) {
        switch (n) {
            case 0: d.storey(0); break;
            case 1: d.type(20); break;
            case 2: d.wall(0, 0, 0, 0, 100, 0); break;
            case 3: d.storey(250); break;
            case 4: d.wall(0, 0, 0, 0, 0, 60); break;
            case 5: d.opening(0, 10, 20); break;
            case 6: d.level(1, 180); break;
            case 7: d.thickness(0, 40); break;
            case 8: d.type(6); break;
            case 9: d.retype(1, 1); break;
            case 10: d.opening(1, 0, 5); break;
            case 11: d.copy(0, 1); break;
            case 12: d.move(2, -7, 9); break;
            case 13: d.remove(0); break;
            case 14: d.level(0, -30); break;
            case 15: d.thickness(1, 8); break;
            case 16: d.opening(3, 30, 5); break;
            case 17: d.remove(3); break;
            case 18: d.move(1, 1, 0); break;
            case 19: d.move(1, 0, 2); break;
            default: d.retype(2, 1); break;
        }
    }

    private static void everyActThereAndBack() {
        int all = 21;
        String[] due = new String[all + 1];
        Subject d = new Subject();
        due[0] = Check.drawn(d);
        for (int n = 0; n < all; n++) {
            act(d, n);
            due[n + 1] = Check.drawn(d);
        }
        for (int deep = 1; deep <= all; deep++) {
            thereAndBack(d.fork(), due, deep);
        }
        for (int n = 0; n < all; n++) {
            d.undo();
        }
        Check.no("12: no more", d.undo());
        Check.same("14: none done", d.acts(0), 0);
        Check.same("14: all undone", d.acts(1), all);
    }

    private static void thereAndBack(Subject d, String[] due, int deep) {
        int all = due.length - 1;
        for (int n = all; n > all - deep; n--) {
            Check.yes("12: undo", d.undo());
            Check.unchanged("12: act " + (n - 1) + " undone", due[n - 1], Check.drawn(d));
        }
        Check.same("14: done", d.acts(0), all - deep);
        Check.same("14: undone", d.acts(1), deep);
        for (int n = all - deep; n < all; n++) {
            Check.yes("13: redo", d.redo());
            Check.unchanged("13: act " + n + " done again", due[n + 1], Check.drawn(d));
        }
        Check.no("13: no more", d.redo());
    }

    private static void dropped() {
        Subject d = new Subject();
        d.type(10);
        d.thickness(0, 20);
        d.thickness(0, 30);
        d.undo();
        d.undo();
        Check.same("12: back", d.typeAt(0, 0), 10);
        d.redo();
        Check.same("13: the one undone last", d.typeAt(0, 0), 20);
        d.thickness(0, 40);
        Check.same("14: undone ones go by the next act", d.acts(1), 0);
        Check.no("13: none", d.redo());
        Check.same("13: stays", d.typeAt(0, 0), 40);
        d.undo();
        Check.same("12: to before the latest act", d.typeAt(0, 0), 20);
        d.undo();
        Check.same("12: and before", d.typeAt(0, 0), 10);
    }

    private static void refusedKeeps() {
        Subject d = new Subject();
        d.storey(0);
        d.storey(10);
        d.type(10);
        d.wall(0, 0, 0, 0, 50, 0);
        d.opening(0, 0, 5);
        d.opening(0, 10, 5);
        d.undo();
        Check.argument("12: refused storey", d, () -> d.storey(10));
        Check.argument("12: refused level", d, () -> d.level(0, 10));
        Check.argument("12: refused type", d, () -> d.type(7));
        Check.argument("12: refused thickness", d, () -> d.thickness(0, 7));
        Check.argument("12: refused wall", d, () -> d.wall(0, 0, 0, 0, 1, 1));
        Check.argument("12: refused move", d, () -> d.move(0, 1000, 0));
        Check.argument("12: refused retype", d, () -> d.retype(0, 1));
        Check.argument("12: refused remove", d, () -> d.remove(1));
        Check.state("12: refused opening", d, () -> d.opening(0, 4, 1));
        Check.argument("12: refused copy", d, () -> d.copy(1, 1));
        Check.same("14: still one undone", d.acts(1), 1);
        Check.yes("13: redo after refusals", d.redo());
        Check.same("13: what it was", d.openingAt(1, 1), 10);
    }

    private static void numbersAreFreeAgain() {
        Subject d = new Subject();
        d.storey(0);
        d.type(10);
        d.wall(0, 0, 0, 0, 50, 0);
        d.opening(0, 0, 5);
        d.remove(0);
        for (int i = 0; i < 3; i++) {
            d.undo();
        }
        Check.same("12: wall 0 again", d.wall(0, 0, 1, 1, 1, 9), 0);
        Check.same("12: it is another one", d.wallAt(0, 5), 9);
        Check.same("12: and has no opening", d.wallAt(0, 9), 0);
        Check.same("12: nor is there one", d.many(3), 0);
        Check.same("12: opening 0 again", d.opening(0, 1, 2), 0);
        Check.same("12: in the new wall", d.openingAt(0, 2), 2);
    }

    private static void twoHundred() {
        Subject d = new Subject();
        d.type(2);
        for (int n = 1; n < 200; n++) {
            d.thickness(0, 2 + n % 40 * 2);
        }
        Check.same("14: 200", d.acts(0), 200);
        Check.state("14: no more", d, () -> d.thickness(0, 2));
        Check.yes("12: undo one", d.undo());
        Check.yes("13: redo it", d.redo());
        Check.same("14: 200 again", d.acts(0), 200);
        Check.state("14: still no more", d, () -> d.storey(0));
        d.undo();
        d.undo();
        Check.same("14: 198 done", d.acts(0), 198);
        Check.same("14: 2 undone", d.acts(1), 2);
        d.thickness(0, 100);
        Check.same("14: undone ones are not counted", d.acts(0), 199);
        Check.same("14: the room of the undone one", d.storey(0), 0);
        Check.state("14: full", d, () -> d.storey(1));
        for (int n = 0; n < 200; n++) {
            Check.yes("12: all the way", d.undo());
        }
        Check.no("12: empty", d.undo());
        Check.same("12: no type", d.many(1), 0);
        Check.same("14: 200 undone", d.acts(1), 200);
        Check.same("12: an act after all", d.storey(5), 0);
        Check.same("14: all dropped", d.acts(1), 0);
    }

    private static void actsRefused() {
        Subject d = new Subject();
        Check.argument("14: what 2", d, () -> d.acts(2));
        Check.argument("14: what -1", d, () -> d.acts(-1));
        Check.argument("15: what 4", d, () -> d.many(4));
        Check.argument("15: what -1", d, () -> d.many(-1));
    }

    private static void counts() {
        Subject d = new Subject();
        d.storey(0);
        d.type(10);
        d.type(10);
        for (int w = 0; w < 3; w++) {
            d.wall(0, 0, 0, w, 50, w);
        }
        for (int o = 0; o < 4; o++) {
            d.opening(0, o, 1);
        }
        d.remove(0);
        for (int what = 0; what <= 3; what++) {
            Check.same("15: many " + what, d.many(what), what + 1);
        }
    }
}
