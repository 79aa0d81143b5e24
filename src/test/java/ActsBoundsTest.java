/** The sentences under ACTS that name a bound: none, the last, 200, and what goes by undoing. */
public final class ActsBoundsTest {
    /** One call of each kind of act that the drawing of started() does not refuse, and what it answers. */
    private static final String[] NAMES =
            {"storey", "level", "type", "thickness", "wall", "move", "retype", "remove", "opening", "copy"};
    private static final int[][] GOOD = {
        {101}, {0, -5}, {40}, {0, 30}, {1, 1, 5, 5, 5, 6}, {0, 1, -1}, {0, 1}, {1}, {0, 50, 10}, {0, 1}};
    private static final int[] ANSWERS = {2, 0, 2, 0, 2, 0, 0, 0, 1, 2};
    private static final int[][] BAD = {
        {100}, {0, 100}, {41}, {0, 31}, {1, 1, 5, 5, 6, 6}, {0, 2000, 0}, {0, 2}, {2}, {0, 100, 1}, {0, 0}};

    public static void main(String[] args) {
        eachOfTheTenIsAnAct();
        whatIsRefusedIsNone();
        whatAsksIsNone();
        undoOfNothing();
        undoGoesBackOverEach();
        redoOfNothing();
        redoEndsByAnotherAct();
        redoIsKeptByARefusedOne();
        redoDoesTheOneUndoneLast();
        numbersAreFreeAgain();
        fullDrawingsHaveRoomAgain();
        the200thIsDoneThe201stRefused();
        undoneOnesDoNotCount();
        twoHundredUndoneOnesGo();
        farBackAndForth();
        the512thCall();
        Check.end("ActsBoundsTest");
    }

    private static Subject started() {
        Subject d = new Subject();
        d.storey(0);
        d.storey(100);
        d.type(10);
        d.type(20);
        d.wall(0, 0, 0, 0, 100, 0);
        d.wall(0, 1, 100, 0, 100, 60);
        d.opening(0, 10, 5);
        return d;
    }

    /** "each of the calls that are marked with * is one, if it is not refused" */
    private static void eachOfTheTenIsAnAct() {
        Subject d = started();
        for (int n = 0; n < NAMES.length; n++) {
            Check.accepted("an act", d, ANSWERS[n], NAMES[n], GOOD[n]);
        }
        Check.accepted("the same level", d, 0, "level", 1, 100);
        Check.accepted("the same thickness", d, 0, "thickness", 1, 20);
        Check.accepted("the same type", d, 0, "retype", 1, 1);
        Check.accepted("the same place", d, 0, "move", 1, 0, 0);
        Check.accepted("a copy of no walls", d, 0, "copy", 1, 0);
    }

    /** "if it is not refused" */
    private static void whatIsRefusedIsNone() {
        Subject d = started();
        for (int n = 0; n < NAMES.length; n++) {
            Check.argument("refused", d, NAMES[n], BAD[n]);
            Check.same("still seven acts after " + NAMES[n], d.acts(0), 7);
        }
        Check.state("refused", d, "opening", 0, 14, 1);
        Check.same("still seven acts", d.acts(0), 7);
        d.undo();
        Check.same("the latest one is undone", d.many(3), 0);
    }

    /** Undoing and asking are no acts. */
    private static void whatAsksIsNone() {
        Subject d = started();
        d.undo();
        String before = Check.told(d);
        Check.unchanged("asking changes nothing", before, Check.told(d));
        d.body(0, 0, 0, 0);
        d.body(0, 0, 0, 7);
        Check.same("six acts", d.acts(0), 6);
        Check.same("one can be done again", d.acts(1), 1);
        Check.yes("it is done again", d.redo());
        Check.same("seven acts", d.acts(0), 7);
    }

    /** Promise 12: "whether there was an act", when there was none. */
    private static void undoOfNothing() {
        Subject d = new Subject();
        for (int n = 0; n < 3; n++) {
            Check.no("nothing to undo", d.undo());
            Check.same("none done", d.acts(0), 0);
            Check.same("none undone", d.acts(1), 0);
        }
        Check.argument("refused", d, "storey", 10001);
        Check.no("what was refused is not undone", d.undo());
        d.storey(5);
        Check.yes("one act", d.undo());
        Check.no("no more", d.undo());
        Check.same("one undone", d.acts(1), 1);
        Check.yes("which is done again", d.redo());
        Check.same("as it was", d.storeyAt(0, 0), 5);
    }

    /** "UNDO brings the drawing back to what it was before the latest act that is not undone" */
    private static void undoGoesBackOverEach() {
        Subject d = started();
        String before = Check.drawn(d);
        for (int n = 0; n < NAMES.length; n++) {
            Subject f = d.fork();
            f.call(NAMES[n], GOOD[n]);
            String after = Check.drawn(f);
            Check.no(NAMES[n] + " changes the drawing", before.equals(after));
            Check.yes("undo " + NAMES[n], f.undo());
            Check.unchanged("undone " + NAMES[n], before, Check.drawn(f));
            Check.same("done", f.acts(0), 7);
            Check.same("undone", f.acts(1), 1);
            Check.yes("redo " + NAMES[n], f.redo());
            Check.unchanged("done again " + NAMES[n], after, Check.drawn(f));
            Check.same("done again", f.acts(0), 8);
            Check.same("none undone", f.acts(1), 0);
        }
    }

    /** Promise 13: "whether there was one", when there was none. */
    private static void redoOfNothing() {
        Subject d = new Subject();
        Check.no("nothing yet", d.redo());
        d.undo();
        Check.no("nothing was undone", d.redo());
        d.storey(0);
        Check.no("nothing is undone", d.redo());
        d.undo();
        Check.yes("one is undone", d.redo());
        Check.no("only one", d.redo());
        Check.same("one storey", d.many(0), 1);
        Check.same("one act", d.acts(0), 1);
    }

    /** "REDO does that act again that was undone last, if no other act was done since" */
    private static void redoEndsByAnotherAct() {
        Subject d = started();
        d.level(1, 90);
        d.level(1, 80);
        d.undo();
        d.undo();
        for (int n = 0; n < NAMES.length; n++) {
            Subject f = d.fork();
            f.call(NAMES[n], GOOD[n]);
            String after = Check.told(f);
            Check.same("none can be done again after " + NAMES[n], f.acts(1), 0);
            Check.no("none is done again after " + NAMES[n], f.redo());
            Check.unchanged("redo of none", after, Check.told(f));
        }
    }

    private static void redoIsKeptByARefusedOne() {
        Subject d = started();
        d.level(1, 90);
        d.level(1, 80);
        d.undo();
        d.undo();
        for (int n = 0; n < NAMES.length; n++) {
            Check.argument("refused", d, NAMES[n], BAD[n]);
            Check.same("two can be done again after " + NAMES[n], d.acts(1), 2);
        }
        Check.state("refused", d, "opening", 0, 14, 1);
        Check.yes("one", d.redo());
        Check.same("its level", d.storeyAt(1, 0), 90);
        Check.yes("and the other", d.redo());
        Check.same("its level", d.storeyAt(1, 0), 80);
        Check.no("no more", d.redo());
    }

    private static void redoDoesTheOneUndoneLast() {
        Subject d = started();
        d.level(1, 90);
        d.thickness(0, 30);
        d.level(1, 80);
        d.undo();
        d.undo();
        d.redo();
        Check.same("the thickness is done again", d.typeAt(0, 0), 30);
        Check.same("the level is not", d.storeyAt(1, 0), 90);
        d.undo();
        d.undo();
        Check.same("three are undone", d.acts(1), 3);
        d.redo();
        Check.same("the first level is done again", d.storeyAt(1, 0), 90);
        Check.same("the thickness is not", d.typeAt(0, 0), 10);
        Check.same("two are undone", d.acts(1), 2);
    }

    /** "What comes by an act goes by its undoing, and its number is free again." */
    private static void numbersAreFreeAgain() {
        Subject d = started();
        d.storey(200);
        d.undo();
        Check.argument("the storey is gone", d, "storeyAt", 2, 0);
        Check.argument("no wall comes to it", d, "wall", 2, 0, 0, 0, 1, 0);
        Check.argument("no copy, either", d, "copy", 0, 2);
        Check.accepted("its number is free, and its level", d, 2, "storey", 150);
        d.type(30);
        d.undo();
        Check.argument("the type is gone", d, "typeAt", 2, 0);
        Check.argument("no wall has it", d, "retype", 0, 2);
        Check.accepted("its number is free", d, 2, "type", 40);
        d.wall(0, 0, 0, 50, 100, 50);
        d.opening(2, 0, 100);
        d.undo();
        Check.argument("the opening is gone", d, "openingAt", 1, 0);
        Check.accepted("its number is free, and its place", d, 1, "opening", 2, 99, 1);
        d.undo();
        Check.argument("the wall is gone", d, "wallAt", 2, 0);
        Check.accepted("its number is free", d, 2, "wall", 1, 1, 7, 7, 7, 8);
        Check.accepted("the opening's, too", d, 1, "opening", 1, 0, 1);
        d.copy(0, 1);
        d.undo();
        Check.argument("the first copy is gone", d, "wallAt", 2, 0);
        Check.argument("the last copy is gone", d, "wallAt", 3, 0);
        Check.argument("its opening is gone", d, "openingAt", 1, 0);
        Check.accepted("their numbers are free", d, 2, "wall", 1, 1, 7, 7, 7, 8);
        Check.accepted("the opening's is free", d, 1, "opening", 1, 0, 1);
    }

    /** The same, where all numbers were given. */
    private static void fullDrawingsHaveRoomAgain() {
        Subject d = started();
        for (int s = 2; s < 6; s++) {
            d.storey(s * 100);
        }
        Check.state("full of storeys", d, "storey", 600);
        d.undo();
        Check.accepted("room for one", d, 5, "storey", 401);
        for (int t = 2; t < 8; t++) {
            d.type(10);
        }
        Check.state("full of types", d, "type", 10);
        d.undo();
        Check.accepted("room for one", d, 7, "type", 12);
        for (int w = 2; w < 40; w++) {
            d.wall(1, 0, 0, w, 1, w);
        }
        Check.state("full of walls", d, "wall", 0, 0, 0, 0, 1, 0);
        d.undo();
        Check.accepted("room for one", d, 39, "wall", 0, 0, 0, 0, 1, 0);
        for (int o = 1; o < 60; o++) {
            d.opening(1, o, 1);
        }
        Check.state("full of openings", d, "opening", 0, 0, 1);
        d.undo();
        Check.accepted("room for one", d, 59, "opening", 0, 0, 1);
    }

    /** "At most 200 acts that are done are held ..; more are refused." */
    private static void the200thIsDoneThe201stRefused() {
        Subject almost = started();
        Check.fillHistory(almost, 199);
        Subject full = almost.fork();
        Check.fillHistory(full, 200);
        for (int n = 0; n < NAMES.length; n++) {
            Check.accepted("the 200th", almost, ANSWERS[n], NAMES[n], GOOD[n]);
            Check.state("the 201st", full, NAMES[n], GOOD[n]);
            Check.argument("the 201st, if it is not good", full, NAMES[n], BAD[n]);
        }
        Check.state("a copy of no walls", full, "copy", 1, 0);
        Check.state("the same level", full, "level", 1, 100);
        Check.same("200 are held", full.acts(0), 200);
        full.undo();
        for (int n = 0; n < NAMES.length; n++) {
            Check.accepted("room for one", full, ANSWERS[n], NAMES[n], GOOD[n]);
        }
        Check.yes("the 200th is done again", full.redo());
        Check.same("200 again", full.acts(0), 200);
        Check.no("no more to do again", full.redo());
        Check.state("refused again", full, NAMES[0], GOOD[0]);
    }

    /** "At most 200 acts that are done are held (undone ones go by the next act)" */
    private static void undoneOnesDoNotCount() {
        Subject d = started();
        Check.fillHistory(d);
        for (int n = 0; n < 100; n++) {
            d.undo();
        }
        Check.same("100 done", d.acts(0), 100);
        Check.same("100 undone", d.acts(1), 100);
        d.level(1, 77);
        Check.same("101 done", d.acts(0), 101);
        Check.same("the undone ones are gone", d.acts(1), 0);
        Check.fillHistory(d);
        Check.same("up to 200 again", d.acts(0), 200);
        Check.state("and no more", d, "level", 1, 78);
    }

    private static void twoHundredUndoneOnesGo() {
        Subject d = started();
        Check.fillHistory(d);
        for (int n = 0; n < 200; n++) {
            Check.yes("undo", d.undo());
        }
        Check.no("no more", d.undo());
        Check.same("none done", d.acts(0), 0);
        Check.same("200 undone", d.acts(1), 200);
        Check.argument("refused", d, "storey", -1001);
        Check.same("200 still undone", d.acts(1), 200);
        Check.same("a first act", d.storey(7), 0);
        Check.same("one done", d.acts(0), 1);
        Check.same("all undone ones are gone", d.acts(1), 0);
        Check.no("none to do again", d.redo());
    }

    private static void farBackAndForth() {
        Subject d = new Subject();
        d.type(2);
        for (int n = 1; n < 200; n++) {
            d.thickness(0, 2 + n % 50 * 2);
        }
        for (int n = 198; n >= 50; n--) {
            Check.yes("undo", d.undo());
            Check.same("one before", d.typeAt(0, 0), 2 + n % 50 * 2);
        }
        for (int n = 51; n < 200; n++) {
            Check.yes("redo", d.redo());
            Check.same("one on", d.typeAt(0, 0), 2 + n % 50 * 2);
        }
        Check.no("no more", d.redo());
        Check.same("200 done again", d.acts(0), 200);
        Check.state("and no more", d, "thickness", 0, 2);
    }

    /** "An object is used for at most 512 calls after it has been made" */
    private static void the512thCall() {
        Subject d = started();
        while (d.callsLeft() > 1) {
            Check.yes("there is an act", d.acts(0) > 0);
        }
        Check.yes("the 512th call", d.undo());
        Check.same("no call is left", d.callsLeft(), 0);
    }
}
