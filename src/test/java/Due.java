/** What the promise tests share: each answer is held against the one that is due. */
final class Due {
    static final int NEVER = -5;
    private static int wrong;

    private Due() { }

    static void is(String call, long got, long due) {
        if (got != due) {
            wrong++;
            System.out.println(call + " answered " + got + ", due is " + due);
        }
    }

    static void wrong(String what) {
        wrong++;
        System.out.println(what);
    }

    static void end() {
        if (wrong != 0) {
            System.exit(1);
        }
    }

    static void feed(BoxHedge x, String text) {
        for (int k = 0; k < text.length(); k++) {
            x.feed(text.charAt(k));
        }
    }

    /** What garden() answers to a text. */
    static int garden(BoxHedge x, String text) {
        feed(x, text);
        return x.garden();
    }

    /** A hedge of plants of these kinds, all with v. */
    static BoxHedge hedge(int v, int... kinds) {
        BoxHedge x = new BoxHedge();
        for (int kind : kinds) {
            x.plant(kind, v);
        }
        return x;
    }

    /** Touches as pairs: 10 times the one, and the other. */
    static BoxHedge touches(BoxHedge x, int... pairs) {
        for (int pair : pairs) {
            x.touch(pair / 10, pair % 10, true);
        }
        return x;
    }
}
