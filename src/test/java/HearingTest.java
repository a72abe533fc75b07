/** Promises 12 to 21: what is heard, cuts, rounds, meeting, joining, listening. */
public final class HearingTest {
    public static void main(String[] args) {
        heard();
        heardAtOnce();
        heardByTheDead();
        by();
        right();
        last();
        cut();
        needed();
        round();
        meet();
        join();
        joinChangesPace();
        listen();
        nothingChanges();
        Due.end();
    }

    private static void heard(BoxHedge x, int one, int word, int other, int hours, int what, int from) {
        String call = "heard " + one + " " + word + " " + other;
        Due.is(call + " hours", x.heard(one, word, other, 0), hours);
        Due.is(call + " what", x.heard(one, word, other, 1), what);
        Due.is(call + " from whom", x.heard(one, word, other, 2), from);
    }

    private static void heard() {
        BoxHedge x = Due.touches(Due.hedge(5, 1, 4, 3, 2, 0), 1, 12, 23, 30);
        heard(x, 0, 100, 0, 0, 100, Due.NEVER);
        heard(x, 0, 100, 1, 3, 105, 0);
        heard(x, 0, 100, 2, 5, 220, 1);
        heard(x, 0, 100, 3, 8, 110, 2);
        heard(x, 0, 100, 4, Due.NEVER, Due.NEVER, Due.NEVER);
        heard(x, 3, 0, 0, 6, 0, 3);
        heard(x, 3, 9999, 1, 9, 4, 0);
        Due.is("no such one", x.heard(5, 0, 0, 0), BoxHedge.NONE);
        Due.is("no such other", x.heard(0, -1, 5, 0), BoxHedge.NONE);
        Due.is("no such what", x.heard(0, 10000, 0, 3), BoxHedge.NONE);
        Due.is("what below 0", x.heard(0, 0, 0, -1), BoxHedge.NONE);
        Due.is("word too great", x.heard(0, 10000, 0, 2), BoxHedge.BAD);
        Due.is("word below 0", x.heard(0, -1, 0, 2), BoxHedge.BAD);
    }

    /** Two ways of like length: what comes from the least number is heard, whoever heard first. */
    private static void heardAtOnce() {
        BoxHedge x = Due.touches(Due.hedge(1, 0, 0, 1, 0), 2, 1, 23, 13);
        heard(x, 0, 7, 3, 6, 7, 1);
        Due.garden(x, "slow 3 p=3");
        heard(x, 0, 7, 3, 6, 7, 1);
        Due.garden(x, "slow 1 p=1");
        heard(x, 0, 7, 3, 6, 8, 2);
        BoxHedge y = Due.touches(Due.hedge(2, 1, 4, 0, 3, 0), 42, 43, 21, 13, 20, 3, 30);
        Due.garden(y, "quick 2 p=1;slow 1 p=2;slow 5 p=4");
        heard(y, 4, 50, 3, 8, 50, 4);
        heard(y, 2, 50, 3, 5, 104, 1);
        heard(y, 2, 50, 0, 4, 50, 2);
    }

    private static void heardByTheDead() {
        BoxHedge x = Due.touches(Due.hedge(1, 0, 0, 0), 1, 12);
        x.kill(1, true);
        heard(x, 0, 7, 1, Due.NEVER, Due.NEVER, Due.NEVER);
        heard(x, 0, 7, 2, Due.NEVER, Due.NEVER, Due.NEVER);
        heard(x, 1, 7, 1, Due.NEVER, Due.NEVER, Due.NEVER);
        heard(x, 1, 7, 2, Due.NEVER, Due.NEVER, Due.NEVER);
        x.kill(1, false);
        heard(x, 0, 7, 2, 6, 7, 1);
    }

    private static void by() {
        BoxHedge x = Due.touches(Due.hedge(0, 0, 2, 0, 0), 1, 12, 23);
        int[] hours = {0, 2, 3, 8, 9, 11, 12, 9999};
        int[] bits = {1, 1, 3, 3, 7, 7, 15, 15};
        for (int k = 0; k < hours.length; k++) {
            Due.is("by " + hours[k], x.by(0, hours[k]), bits[k]);
        }
        x.kill(1, true);
        Due.is("by, one dead", x.by(0, 9999), 1);
        Due.is("by of a dead one", x.by(1, 9999), 0);
        Due.is("no such one", x.by(4, -1), BoxHedge.NONE);
        Due.is("hours below 0", x.by(0, -1), BoxHedge.BAD);
        Due.is("hours too many", x.by(0, 10000), BoxHedge.BAD);
    }

    private static void right() {
        BoxHedge x = Due.touches(Due.hedge(0, 0, 0, 4, 3, 0), 1, 12, 23, 34);
        Due.is("right of 0", x.right(0, 0), 30);
        Due.is("right of 40: doubled and cut again", x.right(0, 40), 22);
        Due.is("right of 9999", x.right(0, 9999), 6);
        Due.is("right of it, as 0 hears it", Due.touches(x, 40).right(3, 0), 1 + 2 + 4 + 16);
        x.touch(4, 0, false);
        x.kill(0, true);
        Due.is("right of a dead one", x.right(0, 0), 0);
        Due.is("no such one", x.right(5, -1), BoxHedge.NONE);
        Due.is("word below 0", x.right(0, -1), BoxHedge.BAD);
        Due.is("word too great", x.right(0, 10000), BoxHedge.BAD);
    }

    private static void last() {
        BoxHedge x = Due.touches(Due.hedge(0, 0, 2, 0, 0), 1, 12, 2);
        Due.is("last", x.last(0), 3);
        Due.is("last of another", x.last(1), 6);
        Due.is("last of one that touches none", x.last(3), 0);
        x.kill(0, true);
        Due.is("last of a dead one", x.last(0), Due.NEVER);
        Due.is("no such one", x.last(4), BoxHedge.NONE);
        Due.is("below 0", x.last(-1), BoxHedge.NONE);
    }

    private static void cut(BoxHedge x, int one, int other, int many, int which) {
        Due.is("cut " + one + " " + other, x.cut(one, other, 0), many);
        Due.is("cut which " + one + " " + other, x.cut(one, other, 1), which);
    }

    private static void cut() {
        BoxHedge x = Due.touches(Due.hedge(0, 0, 0, 0, 0, 0, 0, 0, 0), 1, 2, 3, 4, 17, 27, 37, 47, 75);
        cut(x, 0, 7, Due.NEVER, Due.NEVER);
        cut(x, 0, 5, 1, 128);
        cut(x, 0, 1, Due.NEVER, Due.NEVER);
        cut(x, 7, 0, 0, 0);
        x.kill(2, true);
        cut(x, 0, 7, 3, 2 + 8 + 16);
        x.kill(4, true);
        cut(x, 0, 7, 2, 2 + 8);
        x.kill(0, true);
        cut(x, 0, 7, 0, 0);
        BoxHedge y = Due.touches(Due.hedge(0, 0, 0, 0, 0), 3, 32, 21);
        cut(y, 0, 1, 1, 4);
        Due.is("no such one", x.cut(8, 0, 0), BoxHedge.NONE);
        Due.is("no such other", x.cut(0, 8, 0), BoxHedge.NONE);
        Due.is("no such what, both one", x.cut(0, 0, 2), BoxHedge.NONE);
        Due.is("both one", x.cut(0, 0, 1), BoxHedge.BAD);
    }

    private static void needed() {
        BoxHedge x = Due.touches(Due.hedge(0, 0, 0, 0, 0, 0, 0), 1, 12, 13, 24, 34, 45);
        Due.is("needed", x.needed(0, 5), 2 + 16);
        x.kill(2, true);
        Due.is("needed, one dead", x.needed(0, 5), 2 + 8 + 16);
        Due.is("none between", x.needed(4, 5), 0);
        x.kill(3, true);
        Due.is("never as it is", x.needed(0, 5), 0);
        Due.is("no way at all", x.needed(5, 0), 0);
        Due.is("no such one", x.needed(6, 6), BoxHedge.NONE);
        Due.is("no such other", x.needed(0, -1), BoxHedge.NONE);
        Due.is("both one", x.needed(1, 1), BoxHedge.BAD);
        BoxHedge y = Due.touches(Due.hedge(0, 0, 0, 0, 0, 0), 43, 32, 21, 10);
        Due.is("down to the first", y.needed(4, 0), 2 + 4 + 8);
        Due.is("the first itself", Due.touches(Due.hedge(0, 0, 0, 0), 10, 2).needed(1, 2), 1);
    }

    private static void round(BoxHedge x, int one, int word, int hours, int what) {
        Due.is("round " + one + " " + word, x.round(one, word, 0), hours);
        Due.is("round what " + one + " " + word, x.round(one, word, 1), what);
    }

    private static void round() {
        BoxHedge x = Due.touches(Due.hedge(1, 0, 1, 2, 4, 3), 1, 2, 10, 20, 34);
        round(x, 0, 10, 6, 11);
        round(x, 1, 10, 6, 11);
        round(x, 2, 10, 9, 10);
        round(x, 3, 10, Due.NEVER, Due.NEVER);
        round(x, 4, 10, Due.NEVER, Due.NEVER);
        Due.garden(x, "slow 3 p=1");
        round(x, 0, 10, 9, 11);
        Due.garden(x, "slow 4 p=1");
        round(x, 0, 10, 9, 10);
        x.kill(2, true);
        round(x, 0, 9999, 10, 0);
        x.kill(0, true);
        round(x, 0, 10, Due.NEVER, Due.NEVER);
        round(x, 1, 10, Due.NEVER, Due.NEVER);
        Due.is("no such one", x.round(5, -1, 0), BoxHedge.NONE);
        Due.is("no such what", x.round(0, -1, 2), BoxHedge.NONE);
        Due.is("word below 0", x.round(0, -1, 0), BoxHedge.BAD);
        Due.is("word too great", x.round(0, 10000, 1), BoxHedge.BAD);
    }

    private static void meet() {
        BoxHedge x = Due.touches(Due.hedge(0, 0, 0, 0, 2, 0, 0), 2, 12, 23, 15, 35, 4, 41);
        Due.is("at once, from the least number", x.meet(0, 1), 1 + 4 + 8 + 16);
        Due.is("the other way around", x.meet(1, 0), 2 + 32);
        x.kill(0, true);
        Due.is("of the dead", x.meet(0, 1), 0);
        Due.is("one dead, all of the other", x.meet(1, 0), 2 + 4 + 8 + 32);
        Due.is("no such one", x.meet(6, 6), BoxHedge.NONE);
        Due.is("no such other", x.meet(0, -1), BoxHedge.NONE);
        Due.is("both one", x.meet(5, 5), BoxHedge.BAD);
    }

    private static void join(BoxHedge x, int one, int other, int which, int hours) {
        Due.is("join " + one + " " + other, x.join(one, other, 0), which);
        Due.is("join hours " + one + " " + other, x.join(one, other, 1), hours);
    }

    private static void join() {
        BoxHedge x = Due.touches(Due.hedge(0, 2, 4, 0, 0, 0), 1, 12, 23);
        join(x, 0, 4, 4, 6);
        join(x, 0, 3, 3, 6);
        join(x, 1, 0, 10, 2);
        join(x, 0, 1, Due.NEVER, Due.NEVER);
        join(x, 2, 0, 20, 3);
        BoxHedge y = Due.touches(Due.hedge(0, 2, 4, 0, 4, 0), 1, 2, 12);
        y.touch(1, 3, true);
        y.touch(0, 4, true);
        y.touch(0, 3, true);
        join(y, 0, 4, Due.NEVER, Due.NEVER);
        y.touch(0, 4, false);
        join(y, 0, 4, 4, 6);
        BoxHedge z = Due.touches(Due.hedge(0, 0, 0, 0, 0), 1, 2, 13);
        z.kill(3, true);
        join(z, 0, 3, Due.NEVER, Due.NEVER);
        z.kill(0, true);
        join(z, 0, 2, Due.NEVER, Due.NEVER);
        Due.is("no such one", x.join(5, 5, 0), BoxHedge.NONE);
        Due.is("no such other", x.join(0, 5, 0), BoxHedge.NONE);
        Due.is("no such what", x.join(0, 0, 2), BoxHedge.NONE);
        Due.is("both one", x.join(0, 0, 0), BoxHedge.BAD);
    }

    /** One touch more is one t more: so it may come sooner by any touch, and not at all by the nearest one. */
    private static void joinChangesPace() {
        BoxHedge x = Due.touches(Due.hedge(0, 0, 0, 0, 0), 1, 12, 3);
        Due.garden(x, "slow 9 t>2");
        join(x, 0, 2, Due.NEVER, Due.NEVER);
        Due.garden(x, "slow 9 p=0&t=2");
        x.touch(2, 3, true);
        x.touch(0, 3, false);
        join(x, 0, 3, 13, 6);
        x.touch(2, 3, false);
        x.touch(0, 3, true);
        Due.garden(x, "quick 2 t=2&p=1");
        join(x, 0, 2, 2, 3);
        x.touch(0, 2, true);
        Due.garden(x, "quick 2 t=4&p=0|t=3&p=0;slow 5 t=3&p=0");
        join(x, 0, 2, Due.NEVER, Due.NEVER);
        x.touch(0, 3, false);
        x.touch(0, 2, false);
        Due.garden(x, "slow 40 p=0&t=1;slow 9 p=1;quick 2 t=2&p=0");
        x.kill(3, true);
        join(x, 0, 2, 2, 1);
        join(x, 0, 1, 2, 1);
        x.touch(0, 2, true);
        Due.garden(x, "quick 2 t=3");
        join(x, 0, 1, 3, 1);
        BoxHedge y = Due.touches(Due.hedge(4, 0, 0, 0), 1, 12);
        Due.garden(y, "slow 97 v=4");
        join(y, 0, 2, 2, 100);
    }

    private static void listen() {
        BoxHedge x = Due.touches(Due.hedge(0, 0, 0, 0, 0), 1, 12, 13);
        Due.is("hours and never", x.listen(5), 2);
        x.kill(1, true);
        Due.is("all like: itself or never", x.listen(5), 0);
        for (int k = 0; k < 4; k++) {
            x.kill(k, true);
        }
        Due.is("all dead", x.listen(5), 0);
        BoxHedge y = Due.touches(Due.hedge(0, 1, 3, 0, 0, 0), 3, 13, 23, 43, 2, 12, 42);
        Due.is("like hours, unlike words", y.listen(9), 2);
        Due.is("each such once", y.listen(0), 2);
        y.touch(4, 0, true);
        y.touch(0, 1, true);
        y.touch(1, 0, true);
        Due.is("the one with four unlike", y.listen(0), 1);
        BoxHedge z = Due.touches(Due.hedge(1, 0, 1, 0), 2, 12);
        Due.is("words one apart", z.listen(9999), 2);
        Due.is("no plants", new BoxHedge().listen(0), Due.NEVER);
        Due.is("no plants, word bad", new BoxHedge().listen(10000), BoxHedge.BAD);
        Due.is("word below 0", x.listen(-1), BoxHedge.BAD);
    }

    /** What is asked changes nothing: all answers are the same the second time. */
    private static void nothingChanges() {
        BoxHedge x = Due.touches(Due.hedge(3, 0, 1, 2, 3, 4, 5, 6, 0), 1, 12, 23, 34, 45, 56, 67, 70, 4, 42, 61);
        Due.garden(x, "slow 4 t>1;quick 1 p>3");
        x.plan(0, 3);
        x.plan(2, 0);
        x.see(3, 6, 9);
        x.book(0, 3, 9);
        long first = all(x);
        Due.is("all asked again", all(x), first);
    }

    private static long all(BoxHedge x) {
        long sum = 0;
        for (int one = 0; one < 8; one++) {
            sum = sum * 31 + x.of(one, 2) + x.of(one, 5) + x.of(one, 3);
            sum = sum * 31 + x.by(one, 9999) + x.right(one, 7) + x.last(one) + x.round(one, 7, 0);
            int other = (one + 3) % 8;
            sum = sum * 31 + x.cut(one, other, 1) + x.needed(one, other) + x.meet(one, other) + x.join(one, other, 0);
            sum = sum * 31 + x.odds(one, other, 0) + x.mean(one, 0) + x.planned(one, other);
        }
        return sum * 31 + x.listen(7) + x.who(0) + x.looked() + x.told(3) + x.told(0);
    }
}
