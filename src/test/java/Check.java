import java.util.Arrays;

/** What the project's tests share: they count wrong answers and end with exit code 1 if there was one. */
final class Check {
    interface Call {
        void run();
    }

    private static final int WALKED = 3;

    private static int wrong = 0;

    private Check() {
    }

    static void same(String what, long got, long due) {
        if (got != due) {
            wrong++;
            System.out.println(what + ": answered " + got + ", due is " + due);
        }
    }

    static void yes(String what, boolean holds) {
        same(what, holds ? 1 : 0, 1);
    }

    static void no(String what, boolean holds) {
        same(what, holds ? 1 : 0, 0);
    }

    static void argument(String what, Subject drawing, Call call) {
        refused(what, drawing, call, "IllegalArgumentException");
    }

    static void argument(String what, Subject drawing, String name, int... with) {
        argument(written(what, name, with), drawing, () -> drawing.call(name, with));
    }

    static void state(String what, Subject drawing, Call call) {
        refused(what, drawing, call, "IllegalStateException");
    }

    static void state(String what, Subject drawing, String name, int... with) {
        state(written(what, name, with), drawing, () -> drawing.call(name, with));
    }

    /** A call that throws changes nothing, so all that can be told is looked at before and after. */
    private static void refused(String what, Subject drawing, Call call, String due) {
        String before = toldAndHeld(drawing);
        String got = thrown(call);
        if (!got.equals(due)) {
            wrong++;
            System.out.println(what + ": threw " + got + ", due is " + due);
        }
        unchanged(what, before, toldAndHeld(drawing));
    }

    private static String thrown(Call call) {
        try {
            call.run();
        } catch (RuntimeException e) {
            return e.getClass().getSimpleName();
        }
        return "nothing";
    }

    /** The call is made on a fork, so the drawing stays as it is. */
    static void accepted(String what, Subject drawing, long due, String name, int... with) {
        Subject fork = drawing.fork();
        int done = fork.acts(0);
        String text = written(what, name, with);
        String got = thrown(() -> same(text, fork.call(name, with), due));
        if (!got.equals("nothing")) {
            wrong++;
            System.out.println(text + ": threw " + got + ", due is " + due);
        }
        same(text + ", an act more", fork.acts(0), done + 1);
        same(text + ", none undone", fork.acts(1), 0);
    }

    private static String written(String what, String name, int[] with) {
        return what + ": " + name + Arrays.toString(with);
    }

    static void unchanged(String what, String before, String after) {
        if (!before.equals(after)) {
            wrong++;
            System.out.println(what + ": the drawing is not what it was\n  before: " + before + "\n  after:  " + after);
        }
    }

    /** All that the drawing tells now, and after a few undos and redos. */
    private static String toldAndHeld(Subject d) {
        StringBuilder text = new StringBuilder(told(d));
        Subject back = d.fork();
        for (int n = 0; n < WALKED && back.undo(); n++) {
            text.append("undone\n").append(drawn(back));
        }
        Subject forth = d.fork();
        for (int n = 0; n < WALKED && forth.redo(); n++) {
            text.append("done again\n").append(drawn(forth));
        }
        return text.toString();
    }

    /** All that the drawing tells. */
    static String told(Subject d) {
        return "acts " + d.acts(0) + ' ' + d.acts(1) + '\n' + drawn(d);
    }

    /** The same without the acts that are held. */
    static String drawn(Subject d) {
        StringBuilder text = new StringBuilder();
        tellAll(text, d, "storeyAt", d.many(0), 3);
        tellAll(text, d, "typeAt", d.many(1), 2);
        tellAll(text, d, "wallAt", d.many(2), 9);
        tellAll(text, d, "openingAt", d.many(3), 2);
        for (int s = 0; s < d.many(0); s++) {
            text.append("body ").append(d.body(s, 0, 0, 0)).append('\n');
        }
        return text.toString();
    }

    private static void tellAll(StringBuilder text, Subject d, String name, int many, int mostWhat) {
        for (int n = 0; n < many; n++) {
            text.append(name).append(' ').append(n);
            for (int what = 0; what <= mostWhat; what++) {
                text.append(' ').append(toldOrGone(d, name, n, what));
            }
            text.append('\n');
        }
    }

    private static String toldOrGone(Subject d, String name, int number, int what) {
        try {
            return Long.toString(d.call(name, number, what));
        } catch (IllegalArgumentException e) {
            return "gone";
        }
    }

    /** Fills the history up to so many acts that are done, by acts that leave the drawing as it is. */
    static void fillHistory(Subject d, int upTo) {
        int thickness = (int) d.typeAt(0, 0);
        for (int done = d.acts(0); done < upTo; done++) {
            d.thickness(0, thickness);
        }
    }

    static void fillHistory(Subject d) {
        fillHistory(d, 200);
    }

    static void end(String name) {
        System.out.println(wrong == 0 ? name + ": all answers are as due" : name + ": " + wrong + " answers are not as due");
        if (wrong != 0) {
            System.exit(1);
        }
    }
}
