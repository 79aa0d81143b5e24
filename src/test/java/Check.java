/** What the project's tests share: they count wrong answers and end with exit code 1 if there was one. */
final class Check {
    interface Call {
        void run();
    }

    private static int wrong = 0;

    private Check() {
    }

    static void same(String what, long got, long due) {
        if (got != due) {
            wrong++;
            System.out.println(what + ": answered " + got + ", due is " + due);
        }
    }

    static void yes(String what, boolean holds) {
        same(what, holds ? 1 : 0, 1);
    }

    static void no(String what, boolean holds) {
        same(what, holds ? 1 : 0, 0);
    }

    static void argument(String what, StoreyShapes drawing, Call call) {
        refused(what, drawing, call, "IllegalArgumentException");
    }

    static void state(String what, StoreyShapes drawing, Call call) {
        refused(what, drawing, call, "IllegalStateException");
    }

    /** A call that throws changes nothing, so all that can be told is looked at before and after. */
    private static void refused(String what, StoreyShapes drawing, Call call, String due) {
        String before = told(drawing);
        String got = "nothing";
        try {
            call.run();
        } catch (RuntimeException e) {
            got = e.getClass().getSimpleName();
        }
        if (!got.equals(due)) {
            wrong++;
            System.out.println(what + ": threw " + got + ", due is " + due);
        }
        unchanged(what, before, told(drawing));
    }

    static void unchanged(String what, String before, String after) {
        if (!before.equals(after)) {
            wrong++;
            System.out.println(what + ": the drawing is not what it was\n  before: " + before + "\n  after:  " + after);
        }
    }

    /** All that the drawing tells, but for bodies. */
    static String told(StoreyShapes d) {
        StringBuilder text = new StringBuilder();
        text.append("acts ").append(d.acts(0)).append(' ').append(d.acts(1)).append('\n');
        return text.append(drawn(d)).toString();
    }

    /** The same without the acts that are held. */
    static String drawn(StoreyShapes d) {
        StringBuilder text = new StringBuilder();
        for (int s = 0; s < d.many(0); s++) {
            text.append("storey");
            for (int what = 0; what <= 3; what++) {
                text.append(' ').append(d.storeyAt(s, what));
            }
            text.append('\n');
        }
        for (int t = 0; t < d.many(1); t++) {
            text.append("type");
            for (int what = 0; what <= 2; what++) {
                text.append(' ').append(d.typeAt(t, what));
            }
            text.append('\n');
        }
        for (int w = 0; w < d.many(2); w++) {
            text.append("wall");
            for (int what = 0; what <= 9; what++) {
                text.append(' ').append(wallOrGone(d, w, what));
            }
            text.append('\n');
        }
        for (int o = 0; o < d.many(3); o++) {
            text.append("opening");
            for (int what = 0; what <= 2; what++) {
                text.append(' ').append(openingOrGone(d, o, what));
            }
            text.append('\n');
        }
        return text.toString();
    }

    private static String wallOrGone(StoreyShapes d, int wall, int what) {
        try {
            return Long.toString(d.wallAt(wall, what));
        } catch (IllegalArgumentException e) {
            return "gone";
        }
    }

    private static String openingOrGone(StoreyShapes d, int opening, int what) {
        try {
            return Integer.toString(d.openingAt(opening, what));
        } catch (IllegalArgumentException e) {
            return "gone";
        }
    }

    /** Fills the history up to 200 acts that are done, by acts that leave the drawing as it is. */
    static void fillHistory(StoreyShapes d) {
        int thickness = (int) d.typeAt(0, 0);
        while (d.acts(0) < 200) {
            d.thickness(0, thickness);
        }
    }

    static void end(String name) {
        System.out.println(wrong == 0 ? name + ": all answers are as due" : name + ": " + wrong + " answers are not as due");
        if (wrong != 0) {
            System.exit(1);
        }
    }
}
