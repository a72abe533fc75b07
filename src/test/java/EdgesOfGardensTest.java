import java.util.Set;

/** Each edge that the document names of how a garden is read from its text, and where the fault is (promise 9). */
public final class EdgesOfGardensTest {
    public static void main(String[] args) {
        clausesOneToTen();
        semicolonsBetween();
        blanks();
        wordsOfClauses();
        numbersOfClauses();
        numbersOfTests();
        lettersAndSigns();
        operators();
        fourDeep();
        theNextPartIsNoDeeper();
        everyEnd();
        otherSigns();
        oneHundredBytes();
        whatBindsFirst();
        Due.end();
    }

    /** A text that is a garden. */
    private static void fine(String text) {
        Due.is("garden of <" + text + ">", Due.garden(new BoxHedge(), text), 0);
    }

    private static void fault(String text, int place) {
        BoxHedge x = new BoxHedge();
        Due.is("garden of <" + text + ">", Due.garden(x, text), -10 - place);
        Due.is("text behind the fault of <" + text + ">", x.count(5), 0);
        Due.is("gardens behind the fault of <" + text + ">", x.count(1), 0);
    }

    private static void clausesOneToTen() {
        fault("", 0);
        fine("lose 1");
        fine("lose 1" + ";lose 1".repeat(8));
        fine("lose 1" + ";lose 1".repeat(9));
        fault("lose 1" + ";lose 1".repeat(9) + ";", 69);
        fault("lose 1" + ";lose 1".repeat(10), 69);
        fault("lose 1" + ";lose 1".repeat(9) + " ", 69);
        fault("lose 1" + ";lose 1".repeat(8) + ";", 63);
        fine("slow 1 p=0" + ";lose 1".repeat(8) + ";slow 1 p=0");
        fault("slow 1 p=0" + ";lose 1".repeat(8) + ";slow 1 p=0;", 77);
    }

    private static void semicolonsBetween() {
        fault(";", 0);
        fault(";lose 1", 0);
        fault("lose 1;", 7);
        fault("lose 1;;lose 1", 7);
        fault("lose 1,lose 1", 6);
        fault("lose 1lose 1", 6);
        fault("lose 1 lose 1", 6);
        fault("slow 1 p=0;", 11);
        fault("slow 1 p=0lose 1", 10);
        fault("slow 1 (p=0;lose 1)", 11);
        fine("frost 1;lose 1;slow 1 p=0;quick 1 p=0");
    }

    private static void blanks() {
        fault(" ", 0);
        fault(" lose 1", 0);
        fault("lose1", 4);
        fault("lose  1", 5);
        fault("lose\t1", 4);
        fault("lose 1 ", 6);
        fault("lose 1 ;lose 1", 6);
        fault("lose 1; lose 1", 7);
        fault("frost1", 5);
        fault("frost  1", 6);
        fault("slow1 p=0", 4);
        fault("slow  1 p=0", 5);
        fault("slow 1p=0", 6);
        fault("slow 1  p=0", 7);
        fault("slow 12  p=0", 8);
        fault("slow 1 p =0", 8);
        fault("slow 1 p= 0", 9);
        fault("slow 1 p=0 ", 10);
        fault("slow 1 p=0 |p=0", 10);
        fault("slow 1 p=0| p=0", 11);
        fault("slow 1 p=0& p=0", 11);
        fault("slow 1 ! p=0", 8);
        fault("slow 1 ( p=0)", 8);
        fault("slow 1 (p=0 )", 11);
        fault("quick1 p=0", 5);
        fault("quick  1 p=0", 6);
        fault("quick 1p=0", 7);
        fault("quick 1  p=0", 8);
    }

    private static void wordsOfClauses() {
        fault("Lose 1", 0);
        fault("l 1", 1);
        fault("los 1", 3);
        fault("f 1", 1);
        fault("fros 1", 4);
        fault("s 1 p=0", 1);
        fault("slo 1 p=0", 3);
        fault("q 1 p=0", 1);
        fault("quic 1 p=0", 4);
        fault("lose 1;los 1", 10);
        fault("x", 0);
        fault("1", 0);
        fault("p=0", 0);
        fault("slog 1 p=0", 3);
        fault("slows 1 p=0", 4);
        fault("quiet 1 p=0", 3);
        fault("quicks 1 p=0", 5);
        fault("frown 1", 3);
        fault("frosty 1", 5);
        fault("loss 1", 3);
        fault("loses 1", 4);
        fault("lose 1 p=0", 6);
        fault("frost 1 p=0", 7);
        fault("slow 1;lose 1", 6);
        fault("quick 1;lose 1", 7);
        fault("slow p=0", 5);
        fault("quick p=0", 6);
        fault("lose 1;lost 1", 10);
    }

    /** n is of 1 or 2 digits. */
    private static void numbersOfClauses() {
        fault("lose x", 5);
        fault("lose -1", 5);
        fault("lose +1", 5);
        fault("lose /", 5);
        fault("lose :", 5);
        fine("lose 0");
        fine("lose 9");
        fine("lose 00");
        fine("lose 99");
        fault("lose 1/", 6);
        fault("lose 1:", 6);
        fault("lose 100", 7);
        fault("lose 001", 7);
        fault("lose 1.5", 6);
        fine("frost 0");
        fine("frost 99");
        fault("frost 100", 8);
        fine("slow 0 p=0");
        fine("slow 99 p=0");
        fault("slow 100 p=0", 7);
        fault("slow x p=0", 5);
        fine("quick 0 p=0");
        fine("quick 99 p=0");
        fault("quick 100 p=0", 8);
    }

    private static void numbersOfTests() {
        fault("slow 1 p=", 9);
        fault("quick 1 !p>", 11);
        fault("slow 1 p=1|p<", 13);
        fault("slow 1 p=1&p<;lose 1", 13);
        fault("slow 1 (p<)", 10);
        fault("slow 1 p=x", 9);
        fault("slow 1 p=-1", 9);
        fault("slow 1 p=p", 9);
        fault("slow 1 p=/", 9);
        fault("slow 1 p=:", 9);
        fine("slow 1 p=0");
        fine("slow 1 p=9");
        fine("slow 1 p=00");
        fine("slow 1 p=99");
        fault("slow 1 p=1/", 10);
        fault("slow 1 p=1:", 10);
        fault("slow 1 p=100", 11);
        fault("slow 1 p=000", 11);
        fault("slow 1 (p=100)", 12);
    }

    private static void lettersAndSigns() {
        for (char letter : "pkvthd".toCharArray()) {
            for (char sign : "<=>".toCharArray()) {
                fine("slow 1 " + letter + sign + "1");
                fine("quick 1 " + letter + sign + "99");
            }
        }
        for (char letter = 0; letter < 128; letter++) {
            if ("pkvthd!(".indexOf(letter) < 0) {
                fault("slow 1 " + letter + "=1", 7);
            }
        }
        for (char sign = 0; sign < 128; sign++) {
            if ("<=>".indexOf(sign) < 0) {
                fault("slow 1 p" + sign + "1", 8);
            }
        }
        fault("slow 1 p<=1", 9);
        fault("slow 1 p>=1", 9);
        fault("slow 1 p==1", 9);
        fault("slow 1 pp=1", 8);
        fault("slow 1 1=p", 7);
    }

    private static void operators() {
        fault("slow 1 |p=0", 7);
        fault("slow 1 &p=0", 7);
        fault("slow 1 p=0||p=0", 11);
        fault("slow 1 p=0&&p=0", 11);
        fault("slow 1 p=0|&p=0", 11);
        fault("slow 1 p=0&|p=0", 11);
        fault("slow 1 p=0p=0", 10);
        fault("slow 1 p=0!p=0", 10);
        fault("slow 1 p=0(p=0)", 10);
        fault("slow 1 )", 7);
        fault("slow 1 p=0)", 10);
        fault("slow 1 ()", 8);
        fault("slow 1 (p=0))", 12);
        fault("slow 1 (p=0)p=0", 12);
        fault("slow 1 (p=0)(p=0)", 12);
        fault("slow 1 (p=0)!p=0", 12);
        fault("slow 1 (p=0|)", 12);
        fault("slow 1 (p=0&)", 12);
        fault("slow 1 (p=0;", 11);
        fault("slow 1 !)", 8);
        fault("slow 1 !|p=0", 8);
        fault("slow 1 !&p=0", 8);
        fine("slow 1 p=0|p=0|p=0&p=0&p=0|p=0");
        fine("slow 1 !p=0|!p=0&!p=0");
        fine("slow 1 (p=0)|(p=0)&(p=0|p=0)");
        fine("slow 1 !(p=0)&!(!p=0)");
    }

    /** A ( or ! within 4 others is none. */
    private static void fourDeep() {
        String[] four = {"((((", "(((!", "((!(", "(!((", "!(((", "!!!!", "!!!(", "!!(!", "!(!!", "(!!!", "!!((", "((!!", "(!(!", "!(!("};
        for (String open : four) {
            String ends = ")".repeat(open.replace("!", "").length());
            fine("slow 1 " + open.substring(0, 3) + "p=0" + ")".repeat(open.substring(0, 3).replace("!", "").length()));
            fine("slow 1 " + open + "p=0" + ends);
            fault("slow 1 " + open + "(p=0)" + ends, 11);
            fault("slow 1 " + open + "!p=0" + ends, 11);
            fault("slow 1 " + open, 11);
            fault("slow 1 " + open + ")", 11);
            fault("quick 1 " + open + "(", 12);
        }
    }

    /** What stands beside four others, and not within them, is fine; so are as many more as THE TEXT has room for. */
    private static void theNextPartIsNoDeeper() {
        fine("slow 1 ((((p=0))))&((((p=0))))|((((p=0))))");
        fine("slow 1 !!!!p=0&!!!!p=0|!!!!p=0");
        fine("slow 1 (((!p=0&!p=0|!p=0&(p=0))))");
        fine("slow 1 !!!!p=0;slow 1 !!!!p=0;quick 1 ((((p=0))))");
        fine("slow 1 (((p=0&(p=0))|(p=0))&(p=0))|(p=0)");
        fault("slow 1 (((p=0&(p=0))|(p=0))&(p=0|((!!p=0))))", 35);
        fault("slow 1 !!!!p=0&!!!!!p=0", 19);
        fault("slow 1 ((((p=0))))&(((((p=0)))))", 23);
        fault("slow 1 ((((p=0&!p=0))))", 15);
        fault("slow 1 !!!(p=0|!p=0)", 15);
        fine("slow 1 !!!(p=0|p=0)&!!!(p=0)");
    }

    /** A text that ends too early has its fault at its end, wherever that is. */
    private static void everyEnd() {
        String whole = "slow 12 !(p<1|k=2&v>3);quick 1 (t=12);frost 99;lose 7";
        Set<Integer> ends = Set.of(22, 37, 45, 46, 53);
        for (int end = 0; end <= whole.length(); end++) {
            if (ends.contains(end)) {
                fine(whole.substring(0, end));
            } else {
                fault(whole.substring(0, end), end);
            }
        }
    }

    /** At each place of a text a sign that is none of the language's: the fault is there. */
    private static void otherSigns() {
        String whole = "slow 12 !(p<1|k=2&v>3);quick 1 (t=12);frost 99;lose 7";
        for (int place = 0; place <= whole.length(); place++) {
            for (char sign : new char[] {0, 9, 10, 13, 31, 127, '~', 'A'}) {
                fault(whole.substring(0, place) + sign + whole.substring(Math.min(place + 1, whole.length())), place);
                fault(whole.substring(0, place) + sign, place);
            }
        }
    }

    private static void oneHundredBytes() {
        String tests = "slow 1 p=1" + "&p=1".repeat(20);
        Script.run("9: a hundred bytes are a GARDEN, one more is not taken", "plant(0, 0)=0 plant(0, 0)=1 garden\"" + tests
            + "&p=01&p=01\"=0 of(0, 4)=3 of(1, 4)=4 count(5)=0");
        Script.run("9: what is not taken is none of THE TEXT's", "plant(0, 0)=0 garden\"" + tests + "|p=00|p=00;lose 9\"=0 told(2)=2 of(0, 4)=4");
        Script.run("9: a fault at the end of a hundred bytes", "garden\"" + tests + "&p=01&p=1&\"=-110 count(5)=0");
        Script.run("9: a fault at the hundredth byte", "garden\"" + tests + "&p=01&p=01x\"=0 garden\"" + tests
            + "&p=01&p=1x\"=-109");
        Script.run("9: a fault at the first of a hundred bytes", "garden\"x" + tests + "&p=01&p=1\"=-10 count(5)=0");
        Script.run("9: a hundred bytes of tests and marks ahead of them", "plant(0, 0)=0 garden\"slow 7 !!!!p=0"
            + "&!!!!p=0".repeat(10) + "&p<1\"=0 of(0, 4)=10");
        Script.run("9: a hundred bytes of numbers alone", "garden\"" + "lose 1;".repeat(9) + "lose 1"
            + "\"=0 garden\"" + "frost 99;".repeat(9) + "frost 7\"=1 told(1)=7");
    }

    private static void pace(String e, int... holdsFor) {
        BoxHedge x = Due.hedge(0, 0, 1, 2, 3);
        Due.is("garden of " + e, Due.garden(x, "slow 9 " + e), 0);
        for (int plant = 0; plant < 4; plant++) {
            boolean holds = false;
            for (int each : holdsFor) {
                holds |= each == plant;
            }
            Due.is("pace of " + plant + " under " + e, x.of(plant, 4), holds ? 12 : 3);
        }
    }

    /** E: T or T|E. T: F or F&T. F: !F, (E), or a TEST. */
    private static void whatBindsFirst() {
        pace("p=0|p=1&p=2", 0);
        pace("p=0&p=1|p=2", 2);
        pace("p=0|p=1|p=2", 0, 1, 2);
        pace("p<3&p<2&p<1", 0);
        pace("(p=0|p=1)&p<1", 0);
        pace("p<1&(p=0|p=1)", 0);
        pace("!p=0&p<2", 1);
        pace("!p=0|p=0", 0, 1, 2, 3);
        pace("!(p=0&p<2)", 1, 2, 3);
        pace("!(p=0|p=3)", 1, 2);
        pace("!p=0&!p=3", 1, 2);
        pace("!!p=0", 0);
        pace("!!!p=0", 1, 2, 3);
        pace("!!!!p=0", 0);
        pace("((((p=3))))|((((p=0))))", 0, 3);
        pace("(p=0|(p=1|(p=2|(p=3&p=0))))", 0, 1, 2);
        pace("(p<3&(p<3|(p<2&(p=3|p=0))))", 0, 1, 2);
        pace("(p<3&(p>1|(p<2&(p=3|p=0))))", 0, 2);
        pace("p=0&p=1|p=1&p=1|p=2&p=3", 1);
        pace("(p=0|p=1)&(p=1|p=2)", 1);
        pace("!(p=0|p=1)|!(p=2|p=3)&p=1", 1, 2, 3);
        pace("p<9&p>9");
    }
}
