/** Promises 22 to 32: what is seen, odds, means, plans, books, judging, the image. */
public final class ToldByHandTest {
    public static void main(String[] args) {
        see();
        who();
        odds();
        mean();
        plan();
        planned();
        book();
        looked();
        judge();
        judgeWithoutPlants();
        image();
        undoBringsAllBack();
        undoLeavesTheRest();
        Due.end();
    }

    private static void see() {
        BoxHedge x = Due.hedge(0, 0, 0);
        Due.is("none then", x.see(-1, -1, -1), 0);
        Due.is("no such", x.see(2, -1, -1), BoxHedge.NONE);
        Due.is("below -1", x.see(-2, 0, 0), BoxHedge.NONE);
        Due.is("word below 0", x.see(0, -1, 0), BoxHedge.BAD);
        Due.is("word too great", x.see(0, 10000, 0), BoxHedge.BAD);
        Due.is("hours below 0", x.see(0, 0, -1), BoxHedge.BAD);
        Due.is("hours too many", x.see(0, 0, 10000), BoxHedge.BAD);
        for (int k = 1; k <= 5; k++) {
            Due.is("see", x.see(1, 9999, 9999), k);
        }
        Due.is("the sixth", x.see(1, 0, 0), BoxHedge.FULL);
        Due.is("the sixth, bad", x.see(1, 0, 10000), BoxHedge.BAD);
        Due.is("the sixth, no such", x.see(2, 0, 10000), BoxHedge.NONE);
        Due.is("how many", x.count(2), 5);
        Due.is("none then", x.see(-1, 99999, 0), 0);
        Due.is("how many", x.count(2), 0);
    }

    private static void who() {
        BoxHedge x = Due.touches(Due.hedge(5, 3, 1, 0, 0), 2, 12, 23);
        Due.is("nothing seen: all ways", x.who(0), 400);
        Due.is("nothing seen: the first", x.who(1), 0);
        x.kill(0, true);
        Due.is("nothing seen: a word can be said to the dead", x.who(0), 400);
        x.see(2, 20, 3);
        Due.is("one way, by the privet", x.who(0), 1);
        Due.is("the one way", x.who(1), 115);
        x.kill(0, false);
        Due.is("three ways", x.who(0), 3);
        Due.is("the first, by plants", x.who(1), 40);
        x.see(3, 20, 6);
        Due.is("more seen, as it was", x.who(0), 3);
        x.see(3, 21, 6);
        Due.is("seen what can't be", x.who(0), 0);
        Due.is("seen what can't be: the first", x.who(1), Due.NEVER);
        x.see(-1, 0, 0);
        x.see(2, 20, 0);
        Due.is("said to it", x.who(1), 220);
        x.see(-1, 0, 0);
        x.see(2, 99, 0);
        Due.is("the greatest word", x.who(1), 299);
        x.see(-1, 0, 0);
        x.see(2, 100, 0);
        Due.is("too great a word", x.who(0), 0);
        x.see(-1, 0, 0);
        x.see(0, 1, 3);
        Due.is("never heard", x.who(0), 0);
        Due.is("no such what", x.who(2), BoxHedge.NONE);
        Due.is("what below 0", x.who(-1), BoxHedge.NONE);
        Due.is("no plants", new BoxHedge().who(0), 0);
        Due.is("no plants, the first", new BoxHedge().who(1), Due.NEVER);
    }

    private static void odds(BoxHedge x, int one, int other, long above, long below) {
        Due.is("odds above " + one + " " + other, x.odds(one, other, 0), above);
        Due.is("odds below " + one + " " + other, x.odds(one, other, 1), below);
    }

    private static void odds() {
        BoxHedge x = Due.touches(Due.hedge(0, 0, 0, 0, 0, 0, 0), 1, 12, 13, 24, 34, 45);
        odds(x, 0, 5, 1, 2);
        odds(x, 0, 4, 3, 4);
        odds(x, 0, 1, 1, 1);
        odds(x, 5, 0, 0, 1);
        x.kill(2, true);
        odds(x, 0, 5, 0, 1);
        odds(x, 0, 2, 0, 1);
        odds(x, 1, 4, 2, 3);
        x.kill(0, true);
        odds(x, 0, 4, 0, 1);
        BoxHedge y = Due.touches(Due.hedge(0, 0, 0, 0), 1);
        odds(y, 0, 1, 1, 1);
        y.kill(2, true);
        odds(y, 0, 1, BoxHedge.NO, BoxHedge.NO);
        odds(y, 1, 1, BoxHedge.NO, BoxHedge.NO);
        odds(x, 1, 6, BoxHedge.NO, BoxHedge.NO);
        odds(x, -1, 1, BoxHedge.NO, BoxHedge.NO);
        Due.is("no such part", x.odds(0, 4, 2), BoxHedge.NO);
        Due.is("part below 0", x.odds(0, 4, -1), BoxHedge.NO);
    }

    private static void mean(BoxHedge x, int one, long above, long below) {
        Due.is("mean above " + one, x.mean(one, 0), above);
        Due.is("mean below " + one, x.mean(one, 1), below);
    }

    private static void mean() {
        BoxHedge x = Due.touches(Due.hedge(0, 0, 2, 0, 0), 1, 12, 23);
        mean(x, 0, 6, 1);
        mean(x, 1, 5, 1);
        mean(x, 2, 3, 2);
        mean(x, 3, 0, 1);
        x.kill(1, true);
        mean(x, 0, 0, 1);
        mean(x, 1, BoxHedge.NO, BoxHedge.NO);
        mean(x, 4, BoxHedge.NO, BoxHedge.NO);
        mean(x, -1, BoxHedge.NO, BoxHedge.NO);
        Due.is("no such part", x.mean(0, 2), BoxHedge.NO);
        Due.is("part below 0", x.mean(0, -1), BoxHedge.NO);
    }

    private static void plan() {
        BoxHedge x = Due.hedge(0, 0);
        Due.is("empty then", x.plan(-1, -9), 0);
        Due.is("no such what", x.plan(3, 0), BoxHedge.NONE);
        Due.is("below -1", x.plan(-2, 0), BoxHedge.NONE);
        Due.is("no such plant dies", x.plan(0, 1), BoxHedge.NONE);
        Due.is("no such plant lives", x.plan(1, -1), BoxHedge.NONE);
        Due.is("the plant not looked at", x.plan(2, Integer.MIN_VALUE), 1);
        for (int k = 2; k <= 8; k++) {
            Due.is("plan", x.plan(k % 3, 0), k);
        }
        Due.is("the ninth", x.plan(2, 9), BoxHedge.FULL);
        Due.is("the ninth, no such", x.plan(0, 9), BoxHedge.NONE);
        Due.is("how many", x.count(3), 8);
        Due.is("empty then", x.plan(-1, 0), 0);
        Due.is("how many", x.count(3), 0);
    }

    private static void planned() {
        BoxHedge x = Due.touches(Due.hedge(0, 5, 0, 0, 0), 1, 2, 13, 23);
        Due.garden(x, "slow 7 p=2");
        Due.is("without a plan", x.planned(0, 3), 26 + 3);
        x.plan(2, 0);
        Due.is("six hours on, no frost", x.planned(0, 3), 6 + 3);
        x.plan(0, 1);
        Due.is("one dies", x.planned(0, 3), 6 + 10);
        x.plan(0, 2);
        Due.is("both", x.planned(0, 3), Due.NEVER);
        x.plan(1, 1);
        Due.is("one is not dead any more", x.planned(0, 3), 6 + 3);
        Due.is("nothing is done", x.told(0), 0);
        Due.is("none is dead", x.told(3), 0);
        x.plan(0, 0);
        Due.is("of the dead itself", x.planned(0, 0), Due.NEVER);
        Due.is("of another itself", x.planned(3, 3), 0);
        x.plan(-1, 0);
        Due.garden(x, "slow 1 h=12;slow 2 h=24;slow 4 h=18");
        x.plan(2, 0);
        x.plan(2, 0);
        Due.is("twelve hours on", x.planned(1, 3), 4);
        x.plan(2, 0);
        Due.is("eighteen hours on", x.planned(2, 3), 7);
        Due.garden(x, "slow 7 p=2");
        x.plan(2, 0);
        Due.is("a day on, frost again", x.planned(0, 3), 26 + 3);
        for (int k = 0; k < 101; k++) {
            x.pass(99);
        }
        Due.garden(x, "slow 1 h>14;slow 2 h=15;slow 4 h=16");
        x.plan(-1, 0);
        Due.is("the last hour", x.planned(1, 3), 3 + 1 + 2);
        x.plan(2, 0);
        Due.is("six more go all the same", x.planned(1, 3), 3 + 1);
        Due.is("no such one", x.planned(4, 0), BoxHedge.NONE);
        Due.is("no such other", x.planned(0, -1), BoxHedge.NONE);
    }

    private static void book() {
        BoxHedge x = Due.hedge(0, 0, 0);
        Due.is("empty then", x.book(-1, -1, -1), 0);
        Due.is("no such one", x.book(2, 0, -1), BoxHedge.NONE);
        Due.is("below -1", x.book(-2, 0, 0), BoxHedge.NONE);
        Due.is("no such other", x.book(0, -1, 0), BoxHedge.NONE);
        Due.is("hours below 0", x.book(0, 1, -1), BoxHedge.BAD);
        Due.is("hours too many", x.book(0, 1, 10000), BoxHedge.BAD);
        for (int k = 1; k <= 8; k++) {
            Due.is("book", x.book(1, k % 2, 9999), k);
        }
        Due.is("the ninth", x.book(0, 1, 0), BoxHedge.FULL);
        Due.is("the ninth, bad", x.book(0, 1, 10000), BoxHedge.BAD);
        Due.is("how many", x.count(4), 8);
        Due.is("empty then", x.book(-1, 0, 0), 0);
        Due.is("how many", x.count(4), 0);
    }

    private static void looked() {
        BoxHedge x = Due.touches(Due.hedge(0, 0, 0, 2), 1, 12);
        Due.is("no rows", x.looked(), Due.NEVER);
        x.book(0, 1, 3);
        x.book(0, 2, 6);
        x.book(2, 2, 0);
        Due.is("all so", x.looked(), Due.NEVER);
        x.book(1, 2, 4);
        x.book(1, 2, 5);
        Due.is("the first that is not so", x.looked(), 3);
        x.kill(2, true);
        Due.is("never is not so", x.looked(), 1);
        Due.garden(x, "slow 1 p=0");
        Due.is("as things are now", x.looked(), 0);
    }

    private static void tell(BoxHedge x, int tape, int from, int... places) {
        for (int place : places) {
            x.item(tape, from + place, 1);
        }
    }

    private static void judge() {
        BoxHedge x = Due.touches(Due.hedge(0, 0, 0, 0), 1, 12, 20);
        Due.is("nothing there", x.judge(3, 0), 100);
        x.tape(3, 4, 9);
        Due.is("the first that is otherwise", x.judge(3, 0), 1);
        tell(x, 3, 0, 1, 5);
        Due.is("the last one's", x.judge(3, 0), 20);
        tell(x, 3, 0, 6);
        Due.is("none", x.judge(3, 0), Due.NEVER);
        tell(x, 3, 0, 8);
        Due.is("itself", x.judge(3, 0), 22);
        Due.is("from another place", x.judge(3, 1), 0);
        x.tape(3, 4, 11);
        tell(x, 3, 4, 1, 5, 6);
        Due.is("the row ends ahead", x.judge(3, 4), 107);
        Due.is("at its end", x.judge(3, 11), 100);
        Due.is("behind its end", x.judge(3, Integer.MAX_VALUE), 100);
        Due.is("below 0", x.judge(3, -1), 100);
        Due.is("far below 0", x.judge(3, Integer.MIN_VALUE), 100);
        x.tape(3, 4, 0);
        Due.is("an empty row", x.judge(3, 0), 100);
        for (int sort = 0; sort < 4; sort++) {
            x.tape(2, sort, 9);
            Due.is("another sort", x.judge(2, -1), -12);
        }
        Due.is("no such tape", x.judge(6, 0), BoxHedge.NONE);
        Due.is("below 0", x.judge(-1, 0), BoxHedge.NONE);
        BoxHedge y = Due.touches(Due.hedge(0, 0, 0, 0, 0, 0, 0, 0, 0));
        y.tape(0, 4, 60);
        Due.is("sixty of 64", y.judge(0, 0), 160);
        y.touch(7, 3, true);
        Due.is("the last that it has", y.judge(0, 0), 73);
    }

    private static void judgeWithoutPlants() {
        BoxHedge x = new BoxHedge();
        Due.is("nothing there", x.judge(0, 0), Due.NEVER);
        Due.is("below 0", x.judge(0, -1), Due.NEVER);
        x.tape(0, 4, 3);
        Due.is("a row", x.judge(0, 9), Due.NEVER);
        x.tape(0, 3, 3);
        Due.is("another sort", x.judge(0, 0), -12);
        Due.is("no such tape", x.judge(6, 0), BoxHedge.NONE);
    }

    private static void image() {
        BoxHedge x = Due.hedge(0, 0, 0);
        Due.is("none", x.undo(), BoxHedge.STATE);
        Due.is("image", x.image(), 2);
        x.plant(0, 0);
        Due.is("image again", x.image(), 3);
        x.plant(0, 0);
        Due.is("undo", x.undo(), 3);
        Due.is("undo again", x.undo(), 3);
        Due.is("plants", x.count(0), 3);
        Due.is("image of none", new BoxHedge().image(), 0);
    }

    private static void undoBringsAllBack() {
        BoxHedge x = Due.touches(Due.hedge(4, 6, 3), 1);
        x.row(0, 2, 7);
        x.kill(1, true);
        x.pass(5);
        Due.garden(x, "lose 7;frost 3");
        x.see(0, 5, 0);
        x.plan(0, 0);
        x.book(0, 0, 1);
        x.image();
        Due.garden(x, "lose 9");
        x.touch(0, 1, false);
        x.touch(1, 0, true);
        x.row(0, 2, 1);
        x.kill(1, false);
        x.kill(0, true);
        x.pass(50);
        x.see(-1, 0, 0);
        x.see(0, 6, 0);
        x.plan(-1, 0);
        x.plan(2, 0);
        x.plan(2, 0);
        x.book(-1, 0, 0);
        x.book(0, 0, 0);
        x.plant(6, 9);
        x.touch(2, 0, true);
        x.kill(2, true);
        x.row(2, 0, 8);
        Due.is("undo", x.undo(), 2);
        Due.is("touches", x.of(0, 2), 2);
        Due.is("touches", x.of(1, 2), 0);
        Due.is("row", x.row(0, 2, 7), 7);
        Due.is("dead", x.told(3), 2);
        Due.is("hour", x.told(0), 5);
        Due.is("frost", x.told(1), 3);
        Due.is("lose", x.told(2), 7);
        Due.is("seen", x.count(2), 1);
        Due.is("seen what", x.who(1), 5);
        Due.is("plan", x.count(3), 1);
        Due.is("plan what", x.planned(0, 0), Due.NEVER);
        Due.is("book", x.count(4), 1);
        Due.is("book what", x.looked(), 0);
        Due.is("gone", x.of(2, 0), BoxHedge.NONE);
        Due.is("another comes", x.plant(6, 1), 2);
        Due.is("touches none", x.of(2, 2), 0);
        Due.is("is not dead", x.of(2, 3), 0);
        Due.is("has a new row", x.row(2, 0, 0), 0);
        x.undo();
        Due.is("the image stays as it was", x.count(0), 2);
        BoxHedge y = Due.hedge(0, 0);
        y.image();
        Due.garden(y, "lose 9");
        y.undo();
        Due.is("none held", y.told(2), 2);
    }

    private static void undoLeavesTheRest() {
        BoxHedge x = Due.hedge(4, 0);
        x.image();
        Due.garden(x, "lose 9");
        x.feed(65);
        x.tape(1, 2, 3);
        x.item(1, 1, 7);
        x.act(0, 1, 1);
        x.undo();
        Due.is("gardens", x.count(1), 1);
        Due.is("the next garden", Due.garden(x, ""), -10);
        Due.is("the next garden's number", Due.garden(x, "lose 3"), 1);
        Due.is("tape", x.read(1, 1), 7);
        Due.is("trace", x.count(6), 2);
        Due.is("the text", x.count(5), 0);
        x.feed(65);
        x.undo();
        Due.is("the text stays", x.count(5), 1);
    }
}
