/** Promises 33 to 40: acts, the trace, kinds, counts, tapes. */
public final class ActsAndTapesTest {
    public static void main(String[] args) {
        acts();
        actsWrap();
        noAct();
        trace();
        taken();
        count();
        tape();
        item();
        read();
        shift();
        shiftRefused();
        Due.end();
    }

    /** An act and its trace, the bodies' numbers as two digits each. */
    private static void act(int kind, int act, int x, int due, String bodies) {
        BoxHedge hedge = Due.hedge(3, 0, 0, kind);
        String call = "act " + act + " of kind " + kind + " with " + x;
        Due.is(call, hedge.act(2, act, x), due);
        Due.is(call + " bodies", hedge.count(6), bodies.length() / 2);
        StringBuilder trace = new StringBuilder();
        for (int k = 0; k < bodies.length() / 2; k++) {
            trace.append(hedge.trace(k));
        }
        if (!trace.toString().equals(bodies)) {
            Due.is(call + " left the trace " + trace + ", not " + bodies, 1, 0);
        }
        Due.is(call + " behind the trace", hedge.trace(bodies.length() / 2), BoxHedge.NONE);
    }

    /** Plant 2, v 3, so that i is 2. */
    private static void acts() {
        act(0, 0, 10, 12, "10");
        act(0, 1, 10, 9, "1110");
        act(0, 2, 10, 18, "121110");
        act(1, 0, 10, 12, "10");
        act(1, 1, 10, 9 ^ 6, "201110");
        act(1, 2, 10, (9 ^ 6) * 2, "12201110");
        act(2, 0, 10, 32, "3010");
        act(2, 1, 10, 29, "113010");
        act(2, 2, 10, 58, "12113010");
        act(3, 0, 10, 12, "10");
        act(3, 1, 10, 9, "1110");
        act(3, 2, 10, 18 + 0, "401211101110");
        act(4, 0, 10, -12, "5010");
        act(4, 1, 10, (-13 - 3) ^ 6, "5120115010");
        act(4, 2, 10, ((-13 - 3) ^ 6) * 2, "125120115010");
        act(5, 0, 10, 32, "3010");
        act(5, 1, 10, 29, "113010");
        act(5, 2, 10, (8 * 3 + 2 - 3) * 2, "6012113010");
        act(6, 0, 10, 12 ^ 3, "7110");
        act(6, 1, 10, (12 ^ 3) - 3 + 4, "7011711010");
        act(6, 2, 10, ((12 ^ 3) - 3 + 4) * 2 + (3 ^ 3) - 3 + 4, "401270117110107011711010");
    }

    private static void actsWrap() {
        BoxHedge x = Due.hedge(1, 2, 0, 4);
        Due.is("yew wraps", x.act(0, 0, Integer.MAX_VALUE), Integer.MAX_VALUE * 3);
        Due.is("plant wraps", x.act(1, 0, Integer.MAX_VALUE), Integer.MIN_VALUE);
        Due.is("twice wraps", x.act(1, 2, Integer.MIN_VALUE), 0);
        Due.is("peacock wraps", x.act(2, 0, Integer.MIN_VALUE - 2), Integer.MIN_VALUE);
        x.kill(1, true);
        Due.is("the dead act, too", x.act(1, 1, 5), 5);
    }

    private static void noAct() {
        BoxHedge x = Due.hedge(0, 0);
        int[][] none = {{1, 0}, {-1, 0}, {0, 3}, {0, -1}};
        for (int[] each : none) {
            x.act(0, 2, 7);
            Due.is("no such", x.act(each[0], each[1], 7), 0);
            Due.is("no bodies", x.count(6), 0);
            Due.is("no trace", x.trace(0), BoxHedge.NONE);
        }
    }

    private static void trace() {
        BoxHedge x = Due.hedge(0, 6, 0);
        Due.is("ahead of all acts", x.trace(0), BoxHedge.NONE);
        x.act(0, 2, 7);
        Due.is("bodies", x.count(6), 12);
        Due.is("the last", x.trace(11), 10);
        Due.is("behind", x.trace(12), BoxHedge.NONE);
        Due.is("below 0", x.trace(-1), BoxHedge.NONE);
        Due.is("far behind", x.trace(Integer.MAX_VALUE), BoxHedge.NONE);
        x.act(1, 0, 7);
        Due.is("of the latest alone", x.trace(1), BoxHedge.NONE);
        Due.is("of the latest", x.trace(0), 10);
    }

    private static void taken() {
        BoxHedge x = Due.hedge(0, 0, 1, 2, 3, 4, 5, 6);
        int[] under = {127, 2 + 16, 4 + 32, 8 + 64, 16, 32, 64};
        for (int k = 0; k < 7; k++) {
            for (int plant = 0; plant < 7; plant++) {
                Due.is("kind " + plant + " taken for " + k, x.taken(plant, k), (under[k] >> plant & 1) == 1 ? plant : -12);
            }
        }
        Due.is("no such kind", x.taken(7, 7), BoxHedge.BAD);
        Due.is("kind below 0", x.taken(0, -1), BoxHedge.BAD);
        Due.is("no such plant", x.taken(7, 0), -11);
        Due.is("plant below 0", x.taken(-1, 6), -11);
    }

    private static void count() {
        BoxHedge x = Due.hedge(0, 0, 0, 0, 0, 0, 0, 0);
        Due.garden(x, "lose 1");
        Due.garden(x, "lose 1");
        x.see(0, 0, 0);
        x.plan(2, 0);
        x.plan(2, 0);
        x.plan(2, 0);
        for (int k = 0; k < 4; k++) {
            x.book(0, 0, 0);
        }
        Due.feed(x, "a text");
        x.act(0, 1, 0);
        int[] due = {7, 2, 1, 3, 4, 6, 2};
        for (int what = 0; what < 7; what++) {
            Due.is("count " + what, x.count(what), due[what]);
        }
        Due.is("no such", x.count(7), BoxHedge.BAD);
        Due.is("below 0", x.count(-1), BoxHedge.BAD);
    }

    private static void tape() {
        BoxHedge x = new BoxHedge();
        Due.is("no such", x.tape(6, 9, -1), BoxHedge.NONE);
        Due.is("below 0", x.tape(-1, 0, 0), BoxHedge.NONE);
        Due.is("no such sort", x.tape(0, 5, -1), BoxHedge.BAD);
        Due.is("sort below -1", x.tape(0, -2, 0), BoxHedge.BAD);
        Due.is("too long", x.tape(0, 4, 61), BoxHedge.BAD);
        Due.is("below 0", x.tape(0, 4, -1), -14);
        Due.is("far below 0", x.tape(0, 4, Integer.MIN_VALUE), -14);
        Due.is("refused: nothing there", x.item(0, 0, 0), -11);
        for (int sort = 0; sort < 5; sort++) {
            Due.is("longest", x.tape(5, sort, 60), 1);
            Due.is("last item", x.read(5, 59), 0);
            Due.is("behind", x.read(5, 60), BoxHedge.NO);
            Due.is("an item", x.item(5, 59, 1), 1);
        }
        Due.is("anew", x.tape(5, 4, 60), 1);
        Due.is("all 0", x.read(5, 59), 0);
        Due.is("empty row", x.tape(5, 4, 0), 1);
        Due.is("has no place", x.item(5, 0, 0), -13);
        Due.is("holds nothing", x.tape(5, -1, -99), 1);
        Due.is("nothing there", x.item(5, 0, 0), -11);
    }

    private static void item() {
        BoxHedge x = new BoxHedge();
        long[][] due = {
            {0, 127, 127}, {0, 128, -128}, {0, 255, -1}, {0, 256, 0}, {0, Long.MIN_VALUE, 0},
            {1, 32767, 32767}, {1, 32768, -32768}, {1, 65536, 0}, {1, -1, -1},
            {2, 1L << 31, Integer.MIN_VALUE}, {2, 1L << 32, 0}, {2, -5, -5},
            {3, Long.MAX_VALUE, Long.MAX_VALUE}, {3, Long.MIN_VALUE, Long.MIN_VALUE},
            {4, 0, 0}, {4, 1, 1}, {4, -1, 1}, {4, 1L << 40, 1}, {4, 2, 1},
        };
        for (long[] row : due) {
            x.tape(2, (int) row[0], 3);
            Due.is("item", x.item(2, 1, row[1]), 1);
            Due.is("item " + row[1] + " of sort " + row[0], x.read(2, 1), row[2]);
            Due.is("the one ahead", x.read(2, 0), 0);
            Due.is("the one behind", x.read(2, 2), 0);
        }
        Due.is("no such tape", x.item(6, 9, 0), BoxHedge.NONE);
        Due.is("tape below 0", x.item(-1, 0, 0), BoxHedge.NONE);
        Due.is("nothing there", x.item(0, -1, 0), -11);
        Due.is("behind the end", x.item(2, 3, 0), -13);
        Due.is("below 0", x.item(2, -1, 0), -13);
    }

    private static void read() {
        BoxHedge x = new BoxHedge();
        x.tape(0, 3, 2);
        x.item(0, 1, -7);
        Due.is("read", x.read(0, 1), -7);
        Due.is("behind the end", x.read(0, 2), BoxHedge.NO);
        Due.is("below 0", x.read(0, -1), BoxHedge.NO);
        Due.is("nothing there", x.read(1, 0), BoxHedge.NO);
        Due.is("no such tape", x.read(6, 0), BoxHedge.NO);
        Due.is("tape below 0", x.read(-1, 0), BoxHedge.NO);
    }

    private static void shift() {
        BoxHedge x = new BoxHedge();
        x.tape(0, 2, 5);
        x.tape(1, 2, 3);
        for (int k = 0; k < 5; k++) {
            x.item(0, k, k + 1);
        }
        Due.is("to another", x.shift(0, 1, 1, 0, 3), 3);
        Due.is("came", x.read(1, 2), 4);
        Due.is("stays", x.read(0, 3), 4);
        Due.is("to the same, on", x.shift(0, 0, 0, 1, 4), 4);
        int[] on = {1, 1, 2, 3, 4};
        for (int k = 0; k < 5; k++) {
            Due.is("as they all were before", x.read(0, k), on[k]);
        }
        Due.is("to the same, back", x.shift(0, 2, 0, 0, 3), 3);
        int[] back = {2, 3, 4, 3, 4};
        for (int k = 0; k < 5; k++) {
            Due.is("as they all were before", x.read(0, k), back[k]);
        }
        Due.is("none", x.shift(0, 5, 1, 3, 0), 0);
        Due.is("all", x.shift(1, 0, 0, 2, 3), 3);
        Due.is("came", x.read(0, 4), 4);
    }

    private static void shiftRefused() {
        BoxHedge x = new BoxHedge();
        x.tape(0, 2, 5);
        x.tape(1, 2, 3);
        x.tape(2, 3, 3);
        Due.is("no such tape", x.shift(6, -1, 0, 0, 0), BoxHedge.NONE);
        Due.is("no such other", x.shift(3, 0, -1, 0, 0), BoxHedge.NONE);
        Due.is("nothing there", x.shift(3, -1, 0, 0, 0), -11);
        Due.is("nothing in the other", x.shift(0, 0, 3, 0, 0), -11);
        Due.is("unlike sorts", x.shift(0, -1, 2, 0, 9), -12);
        int[][] refused = {{-1, 0, 1}, {0, -1, 1}, {0, 0, -1}, {0, 0, 4}, {3, 0, 3}, {0, 1, 3}, {6, 0, 0}, {0, 4, 0},
            {Integer.MAX_VALUE, 0, 1}, {0, Integer.MAX_VALUE, 1}, {0, 0, Integer.MAX_VALUE},
            {Integer.MAX_VALUE, 1, Integer.MAX_VALUE}, {Integer.MIN_VALUE, 0, 0}};
        for (int[] each : refused) {
            Due.is("no such place", x.shift(0, each[0], 1, each[1], each[2]), -13);
        }
    }
}
