/** Promises 1 to 11: a new object, plants, gardens. */
public final class PlantsTest {
    public static void main(String[] args) {
        aNewObject();
        plant();
        of();
        says();
        touch();
        kill();
        row();
        feed();
        gardenNumbers();
        gardenFaults();
        gardenDepth();
        gardenAfterFaults();
        gardenTests();
        gardenClauses();
        told();
        pass();
        Due.end();
    }

    private static void aNewObject() {
        BoxHedge x = new BoxHedge();
        Due.is("plants of a new one", x.count(0), 0);
        Due.is("gardens of a new one", x.count(1), 0);
        for (int what = 2; what <= 6; what++) {
            Due.is("count of a new one", x.count(what), 0);
        }
        Due.is("hour of a new one", x.told(0), 0);
        Due.is("dead of a new one", x.told(3), 0);
        Due.is("image of a new one", x.undo(), BoxHedge.STATE);
        for (int tape = 0; tape < 6; tape++) {
            Due.is("item of a tape that holds nothing", x.item(tape, 0, 1), -11);
        }
        Due.is("NONE", BoxHedge.NONE, -1);
        Due.is("BAD", BoxHedge.BAD, -2);
        Due.is("STATE", BoxHedge.STATE, -3);
        Due.is("FULL", BoxHedge.FULL, -4);
        Due.is("NO", BoxHedge.NO, Long.MIN_VALUE);
    }

    private static void plant() {
        BoxHedge x = new BoxHedge();
        Due.is("plant(-1, 0)", x.plant(-1, 0), BoxHedge.NONE);
        Due.is("plant(7, 10)", x.plant(7, 10), BoxHedge.NONE);
        Due.is("plant(6, 10)", x.plant(6, 10), BoxHedge.BAD);
        Due.is("plant(6, -1)", x.plant(6, -1), BoxHedge.BAD);
        for (int k = 0; k < 8; k++) {
            Due.is("plant as it comes", x.plant(k % 7, 9), k);
        }
        Due.is("the ninth plant", x.plant(0, 0), BoxHedge.FULL);
        Due.is("the ninth plant, v bad", x.plant(0, 10), BoxHedge.BAD);
        Due.is("the ninth plant, no kind", x.plant(8, 10), BoxHedge.NONE);
        Due.is("plants", x.count(0), 8);
    }

    private static void of() {
        BoxHedge x = Due.hedge(4, 0, 1, 2, 3, 4, 5, 6);
        int[] takes = {3, 3, 6, 3, 2, 26, 3};
        for (int k = 0; k < 7; k++) {
            Due.is("kind", x.of(k, 0), k);
            Due.is("v", x.of(k, 1), 4);
            Due.is("touches", x.of(k, 2), 0);
            Due.is("dead", x.of(k, 3), 0);
            Due.is("pace", x.of(k, 4), 3);
            Due.is("takes of kind " + k, x.of(k, 5), takes[k]);
        }
        x.pass(5);
        Due.is("frosty at 5", x.of(5, 5), 26);
        x.pass(1);
        Due.is("frosty at 6", x.of(5, 5), 6);
        x.pass(18);
        Due.is("frosty at 24", x.of(5, 5), 26);
        x.row(6, 0, 7);
        x.row(6, 1, 9);
        Due.is("told at 24", x.of(6, 5), 10);
        x.pass(1);
        Due.is("told at 25", x.of(6, 5), 12);
        x.pass(1);
        Due.is("told at 26", x.of(6, 5), 3);
        Due.garden(x, "quick 9 p<9");
        Due.is("peacock at its least", x.of(4, 5), 1);
        Due.is("yew at its least", x.of(2, 5), 2);
        Due.is("no such plant", x.of(7, 0), BoxHedge.NONE);
        Due.is("plant below 0", x.of(-1, 0), BoxHedge.NONE);
        Due.is("no such what", x.of(0, 6), BoxHedge.NONE);
        Due.is("what below 0", x.of(0, -1), BoxHedge.NONE);
    }

    private static void says() {
        BoxHedge x = Due.hedge(7, 0, 1, 2, 3, 4, 5, 6);
        int[] of15 = {15, 22, 15, 7, 44, 15, 14};
        int[] of9999 = {9999, 6, 9999, 4999, 12, 9999, 5006};
        for (int k = 0; k < 7; k++) {
            Due.is("says 15, kind " + k, x.says(k, 15), of15[k]);
            Due.is("says 9999, kind " + k, x.says(k, 9999), of9999[k]);
        }
        Due.garden(x, "lose 1");
        Due.is("clipped that loses nothing", x.says(3, 9999), 9999);
        Due.is("told around", x.says(6, 9999), 6);
        Due.garden(x, "lose 99");
        Due.is("clipped by 99", x.says(3, 9999), 101);
        Due.is("told by 99", x.says(6, 98), 7);
        Due.is("peacock around", x.says(4, 5000), 14);
        Due.is("no such plant", x.says(7, -1), BoxHedge.NONE);
        Due.is("word below 0", x.says(0, -1), BoxHedge.BAD);
        Due.is("word too great", x.says(0, 10000), BoxHedge.BAD);
    }

    private static void touch() {
        BoxHedge x = Due.hedge(0, 0, 0, 0);
        Due.is("first", x.touch(0, 2, true), 0);
        Due.is("again", x.touch(0, 2, true), 1);
        Due.is("bits", x.of(0, 2), 4);
        Due.is("not back", x.of(2, 2), 0);
        Due.is("no more", x.touch(0, 2, false), 1);
        Due.is("no more again", x.touch(0, 2, false), 0);
        Due.is("bits gone", x.of(0, 2), 0);
        Due.is("itself", x.touch(1, 1, true), BoxHedge.BAD);
        Due.is("no such plant", x.touch(3, 0, true), BoxHedge.NONE);
        Due.is("no such other", x.touch(0, 3, true), BoxHedge.NONE);
        Due.is("neither, both one", x.touch(3, 3, true), BoxHedge.NONE);
        Due.is("below 0", x.touch(-1, 0, true), BoxHedge.NONE);
    }

    private static void kill() {
        BoxHedge x = Due.hedge(0, 0, 0);
        Due.is("dies", x.kill(1, true), 0);
        Due.is("dies again", x.kill(1, true), 1);
        Due.is("of", x.of(1, 3), 1);
        Due.is("told", x.told(3), 2);
        Due.is("lives", x.kill(1, false), 1);
        Due.is("lives again", x.kill(1, false), 0);
        Due.is("told", x.told(3), 0);
        Due.is("no such", x.kill(2, true), BoxHedge.NONE);
        Due.is("below 0", x.kill(-1, true), BoxHedge.NONE);
    }

    private static void row() {
        BoxHedge x = Due.hedge(0, 6, 3, 6);
        Due.is("first", x.row(0, 3, 9), 0);
        Due.is("then", x.row(0, 3, 2), 9);
        Due.is("another's", x.row(2, 3, 1), 0);
        Due.is("another part", x.row(0, 2, 0), 0);
        Due.is("no such plant", x.row(3, 0, 10), BoxHedge.NONE);
        Due.is("no such part", x.row(1, 4, 10), BoxHedge.NONE);
        Due.is("part below 0", x.row(0, -1, 0), BoxHedge.NONE);
        Due.is("too great", x.row(1, 0, 10), BoxHedge.BAD);
        Due.is("below 0", x.row(0, 0, -1), BoxHedge.BAD);
        Due.is("another kind", x.row(1, 0, 9), BoxHedge.STATE);
    }

    private static void feed() {
        BoxHedge x = new BoxHedge();
        Due.is("below 0", x.feed(-1), BoxHedge.BAD);
        Due.is("too great", x.feed(128), BoxHedge.BAD);
        for (int k = 1; k <= 100; k++) {
            Due.is("feed", x.feed(k == 1 ? 0 : 127), k);
        }
        Due.is("the next", x.feed(65), BoxHedge.FULL);
        Due.is("the next, bad", x.feed(128), BoxHedge.BAD);
        Due.is("bytes", x.count(5), 100);
        Due.is("fault at a byte 0", x.garden(), -10);
        Due.is("bytes then", x.count(5), 0);
    }

    private static void gardenNumbers() {
        BoxHedge x = new BoxHedge();
        for (int k = 0; k < 6; k++) {
            Due.is("garden", Due.garden(x, "lose " + (k + 3)), k);
            Due.is("the newest holds", x.told(2), k + 3);
            Due.is("a fault", Due.garden(x, "lose;"), k < 5 ? -14 : BoxHedge.FULL);
            Due.is("the one that held holds", x.told(2), k + 3);
        }
        Due.is("the text stays", x.count(5), 5);
        Due.is("gardens", x.count(1), 6);
        Due.is("still full", x.garden(), BoxHedge.FULL);
    }

    private static void fault(String text, int place) {
        Due.is("garden of <" + text + ">", Due.garden(new BoxHedge(), text), place < 0 ? 0 : -10 - place);
    }

    private static void gardenFaults() {
        fault("", 0);
        fault(" lose 1", 0);
        fault("l", 1);
        fault("los", 3);
        fault("losE 1", 3);
        fault("lose", 4);
        fault("lose1", 4);
        fault("lose ", 5);
        fault("lose  1", 5);
        fault("lose 123", 7);
        fault("lose 1 ", 6);
        fault("lose 12", -1);
        fault("lose 12;", 8);
        fault("lose 12;;", 8);
        fault("lose 1;frost 0;quick 00 p=0;slow 99 d<99", -1);
        fault("slow 1", 6);
        fault("slow 1;", 6);
        fault("slow 1 ", 7);
        fault("slow 1 p", 8);
        fault("slow 1 p=", 9);
        fault("slow 1 p>x", 9);
        fault("slow 1 p=1 ", 10);
        fault("slow 1 p=100", 11);
        fault("slow 1 p=1&", 11);
        fault("slow 1 p=1&&", 11);
        fault("slow 1 p=1|&", 11);
        fault("slow 1 (p=1", 11);
        fault("slow 1 (p=1;", 11);
        fault("slow 1 ()", 8);
        fault("slow 1 p=1)", 10);
        fault("slow 1 x=1", 7);
        fault("slow 1 p!1", 8);
        fault("slow 1 !", 8);
        fault("slow 1 !p", 9);
        fault("quack 1 p=1", 2);
        fault("frost 1 p=1", 7);
    }

    private static void gardenDepth() {
        fault("slow 1 ((((p=1))))", -1);
        fault("slow 1 (((((p=1)))))", 11);
        fault("slow 1 !!!!p=1", -1);
        fault("slow 1 !!!!!p=1", 11);
        fault("slow 1 !(!(p=1))", -1);
        fault("slow 1 !(!((p=1)))", 11);
        fault("slow 1 ((((p=1))))&((((p=1))))|!!!!p=1", -1);
        fault("slow 1 (!!!p=1|!!!p=1&!!!p=1)", -1);
        fault("slow 1 (!!!p=1|!!!!p=1)", 18);
        StringBuilder ten = new StringBuilder("lose 1");
        for (int k = 1; k < 10; k++) {
            ten.append(";lose 1");
        }
        fault(ten.toString(), -1);
        fault(ten + ";lose 1", 69);
        fault(ten + ";", 69);
        fault(ten + " ", 69);
    }

    private static void gardenAfterFaults() {
        BoxHedge x = Due.hedge(0, 0, 0);
        for (int k = 0; k < 9; k++) {
            Due.is("a long one", Due.garden(x, "slow 7 p<9&p<9&p<9&p<9&p<9&p<9&p<9&p<9;lose 9;frost 9;slow 7 p<9&p<9&p<9&p<9 "), -86);
        }
        Due.is("then a short one", Due.garden(x, "slow 5 p=0&v=0"), 0);
        Due.is("pace by that alone", x.of(0, 4), 8);
        Due.is("pace of another", x.of(1, 4), 3);
        Due.is("lose", x.told(2), 2);
        Due.is("frost", x.told(1), 20);
    }

    private static void pace(BoxHedge x, int plant, String e, boolean holds) {
        x.undo();
        Due.garden(x, "slow 50 " + e);
        Due.is("pace under " + e, x.of(plant, 4), holds ? 53 : 3);
    }

    private static void gardenTests() {
        String[] hold = {"p=1", "p>0", "p<2", "k=4", "v=9", "t=2", "h=3", "d=1", "!p=0", "p=0|p=1", "p=1&k=4", "(p=0|k=4)&v=9",
            "p=0&v=0|k=4", "k=4|p=0&v=0", "!(p=0|k=3)", "!!p=1", "!p=0&k=4", "p<02", "p=01"};
        String[] not = {"p=0", "p>1", "p<1", "k=3", "v<9", "t>2", "h<3", "d=0", "!p=1", "p=0|p=2", "p=1&k=3", "(p=1|k=4)&v=8",
            "(p=1|p=2)&k=3", "k=3&(p=1|p=2)", "!(p=1|k=3)", "!!p=0", "!(p=1)&k=4", "!p=1|k=3"};
        for (int k = 0; k < hold.length + not.length; k++) {
            BoxHedge x = Due.touches(Due.hedge(9, 0, 4, 0), 12, 10);
            x.kill(2, true);
            x.pass(27);
            x.image();
            pace(x, 1, k < hold.length ? hold[k] : not[k - hold.length], k < hold.length);
        }
        BoxHedge x = Due.hedge(0, 0);
        for (int k = 0; k < 26; k++) {
            x.pass(99);
        }
        Due.garden(x, "slow 1 d=99;slow 2 d>98;slow 4 d<99;slow 8 h=6");
        Due.is("d goes up to 99, h around", x.of(0, 4), 3 + 1 + 2 + 8);
    }

    private static void gardenClauses() {
        BoxHedge x = Due.hedge(0, 0, 0);
        Due.garden(x, "slow 9 p=0;quick 5 p<9;slow 2 p<2;frost 7;frost 8;lose 0;lose 5;lose 0");
        Due.is("pace together", x.of(0, 4), 3 + 9 - 5 + 2);
        Due.is("pace at least 1, at the end", x.of(1, 4), 1);
        Due.is("the last frost", x.told(1), 8);
        Due.is("the last lose, 1 at least", x.told(2), 1);
        Due.garden(x, "quick 99 p=0;slow 99 p=0");
        Due.is("quick ahead of slow", x.of(0, 4), 3);
        Due.is("frost of the newest alone", x.told(1), 20);
        Due.is("lose of the newest alone", x.told(2), 2);
        Due.garden(x, "frost 0");
        Due.is("no frost", x.told(1), 0);
    }

    private static void told() {
        BoxHedge x = Due.hedge(0, 0, 0, 0);
        x.pass(7);
        x.kill(0, true);
        x.kill(2, true);
        Due.is("hour", x.told(0), 7);
        Due.is("frost", x.told(1), 20);
        Due.is("lose", x.told(2), 2);
        Due.is("dead", x.told(3), 5);
        Due.is("no such", x.told(4), BoxHedge.NONE);
        Due.is("below 0", x.told(-1), BoxHedge.NONE);
    }

    private static void pass() {
        BoxHedge x = new BoxHedge();
        Due.is("none goes", x.pass(0), 0);
        Due.is("too many", x.pass(100), BoxHedge.BAD);
        Due.is("below 0", x.pass(-1), BoxHedge.BAD);
        for (int k = 1; k <= 101; k++) {
            Due.is("hours go", x.pass(99), 99 * k);
        }
        Due.is("one too late", x.pass(1), BoxHedge.STATE);
        Due.is("none is fine", x.pass(0), 9999);
        Due.is("bad first", x.pass(100), BoxHedge.BAD);
        Due.is("hour", x.told(0), 9999);
    }
}
