/** Each sentence of the document that names an edge: Terms, part 1, and promises 1 to 11. */
public final class EdgesOfPlantsTest {
    public static void main(String[] args) {
        aNewObject();
        theLastOfItsCalls();
        plants();
        kindsAndNumbers();
        whatIsAskedOfAPlant();
        pace();
        pacesOfTests();
        testsOfTouches();
        testsOfHours();
        testsOfDays();
        takes();
        frost();
        rowsOfHours();
        saysModulo();
        saysCut();
        words();
        touches();
        deadOrNot();
        rows();
        text();
        gardensSix();
        aFaultLeavesTheGarden();
        frostAndLose();
        told();
        hours();
        Due.end();
    }

    private static void aNewObject() {
        Script.run("1: no PLANTS, no GARDEN, nothing else either", """
            count(0)=0 count(1)=0 count(2)=0 count(3)=0 count(4)=0 count(5)=0 count(6)=0
            told(0)=0 told(1)=20 told(2)=2 told(3)=0
            of(0, 0)=NONE says(0, 0)=NONE touch(0, 1, true)=NONE touch(0, 0, true)=NONE kill(0, true)=NONE row(0, 0, 0)=NONE
            heard(0, 0, 0, 0)=NONE by(0, 0)=NONE right(0, 0)=NONE last(0)=NONE
            cut(0, 1, 0)=NONE cut(0, 0, 0)=NONE needed(0, 1)=NONE needed(0, 0)=NONE round(0, 0, 0)=NONE
            meet(0, 1)=NONE meet(0, 0)=NONE join(0, 1, 0)=NONE join(0, 0, 0)=NONE listen(0)=NEVER listen(9999)=NEVER
            see(0, 0, 0)=NONE who(0)=0 who(1)=NEVER odds(0, 1, 0)=NO mean(0, 0)=NO
            plan(0, 0)=NONE plan(1, 0)=NONE planned(0, 0)=NONE book(0, 0, 0)=NONE looked()=NEVER
            undo()=STATE act(0, 0, 0)=0 trace(0)=NONE taken(0, 0)=NOTHING
            judge(0, 0)=NEVER item(0, 0, 0)=NOTHING item(5, 0, 0)=NOTHING read(0, 0)=NO read(5, 0)=NO shift(0, 0, 5, 0, 0)=NOTHING
            garden()=-10
            image()=0 undo()=0 count(0)=0
            """);
    }

    /** "An object is used for at most 512 calls": the last one of them is answered as the first is. */
    private static void theLastOfItsCalls() {
        BoxHedge x = Due.hedge(5, 0, 1);
        for (int call = 3; call < 511; call++) {
            x.touch(1, 0, call % 2 == 0);
        }
        Due.is("call 511", x.touch(1, 0, true), 1);
        Due.is("call 512", x.heard(1, 9995, 0, 1), 0);
    }

    private static void plants() {
        Script.run("2: PLANTS 0 .. 7, as they come; FULL: 8", """
            plant(0, 0)=0 plant(1, 1)=1 plant(2, 2)=2 plant(3, 3)=3 plant(4, 4)=4 plant(5, 5)=5 plant(6, 6)=6
            of(7, 0)=NONE count(0)=7 plant(0, 7)=7 of(7, 1)=7 of(8, 0)=NONE count(0)=8
            plant(0, 0)=FULL plant(6, 9)=FULL count(0)=8
            of(0, 0)=0 of(1, 0)=1 of(2, 0)=2 of(3, 0)=3 of(4, 0)=4 of(5, 0)=5 of(6, 0)=6 of(7, 0)=0
            """);
        Script.run("2: NONE, BAD, FULL, the first that its words name", """
            plant(0, 0)*8=7 plant(7, 10)=NONE plant(-1, -1)=NONE plant(7, 0)=NONE plant(0, 10)=BAD plant(0, -1)=BAD plant(0, 9)=FULL
            """);
        Script.run("2: those that come behind an undo() go on from what there is", """
            plant(0, 0)=0 image()=1 plant(3, 9)=1 plant(3, 8)=2 undo()=1 plant(2, 7)=1 of(1, 0)=2 of(1, 1)=7 of(2, 0)=NONE
            """);
    }

    private static void kindsAndNumbers() {
        Script.run("2: KINDS are 0 .. 6", """
            plant(-1, 0)=NONE plant(7, 0)=NONE plant(MIN, 0)=NONE plant(MAX, 0)=NONE plant(-1, 10)=NONE plant(7, -1)=NONE
            count(0)=0 plant(0, 0)=0 plant(6, 0)=1 of(0, 0)=0 of(1, 0)=6
            """);
        Script.run("2: v is 0 .. 9", """
            plant(0, -1)=BAD plant(6, 10)=BAD plant(0, MIN)=BAD plant(0, MAX)=BAD count(0)=0
            plant(0, 0)=0 plant(0, 9)=1 of(0, 1)=0 of(1, 1)=9
            """);
    }

    private static void whatIsAskedOfAPlant() {
        Script.run("3: TOUCHES none at first, DEAD not at first; NONE: plant, what", """
            plant(0, 0)=0 plant(6, 9)=1
            of(1, 0)=6 of(1, 1)=9 of(1, 2)=0 of(1, 3)=0 of(1, 4)=3 of(1, 5)=3
            of(2, 0)=NONE of(-1, 0)=NONE of(MAX, 0)=NONE of(MIN, 0)=NONE
            of(0, 6)=NONE of(0, -1)=NONE of(0, MAX)=NONE of(0, MIN)=NONE of(2, 6)=NONE
            """);
    }

    private static void pace() {
        Script.run("PACE: 1 at least", """
            plant(0, 0)=0 plant(4, 0)=1 plant(2, 0)=2
            of(0, 4)=3 of(1, 4)=3 of(2, 4)=3
            garden"quick 1 p<9"=0 of(0, 4)=2 of(0, 5)=2
            garden"quick 2 p<9"=1 of(0, 4)=1 of(0, 5)=1
            garden"quick 3 p<9"=2 of(0, 4)=1 of(0, 5)=1
            garden"quick 99 p<9"=3 of(0, 4)=1 of(1, 4)=1 of(2, 4)=1
            garden"quick 0 p<9"=4 of(0, 4)=3
            garden"slow 0 p<9"=5 of(0, 4)=3
            """);
        Script.run("PACE: all slow, less all quick, together, and 1 at least only then", """
            plant(0, 0)=0
            garden"quick 99 p=0;slow 99 p=0"=0 of(0, 4)=3
            garden"quick 9 p=0;quick 9 p=0;slow 9 p=0;slow 8 p=0"=1 of(0, 4)=2
            garden"quick 9 p=0;quick 9 p=0;slow 9 p=0;slow 7 p=0"=2 of(0, 4)=1
            garden"quick 9 p=0;quick 9 p=0;slow 9 p=0;slow 6 p=0"=3 of(0, 4)=1
            garden"slow 99 p<8;slow 99 p<8;slow 99 p<8;slow 99 p<8;slow 99 p<8;slow 99 p<8;slow 99 p<8;slow 99 p<8"=4 of(0, 4)=795
            garden"slow 5 p=0;slow 5 p=0;quick 7 p=1"=5 of(0, 4)=13
            """);
        Script.run("PACE: of ten CLAUSES, the first and the last among them", """
            plant(0, 0)=0 garden"slow 1 p<1;lose 1;lose 1;lose 1;lose 1;lose 1;lose 1;lose 1;lose 1;slow 2 p<1"=0 of(0, 4)=6
            garden"slow 9 p<1;slow 9 p<1;slow 9 p<1;slow 9 p<1;x"=-54 garden"lose 3;slow 1 v>0"=1 of(0, 4)=3
            """);
        Script.run("PACE: the n of those whose E holds, of that PLANT", """
            plant(0, 0)=0 plant(1, 5)=1 garden"slow 1 p=0;slow 2 k=1;slow 4 v=5;slow 8 p>1;quick 1 p=1"=0 of(0, 4)=4 of(1, 4)=8
            """);
    }

    private static void pacesOfTests() {
        Script.run("TEST: <, = and > on either side of p", """
            plant(0, 0)*8=7 garden"slow 1 p<1;slow 2 p=1;slow 4 p>1;slow 8 p<7;slow 16 p=7;slow 32 p>6"=0
            of(0, 4)=12 of(1, 4)=13 of(2, 4)=15 of(6, 4)=15 of(7, 4)=55
            """);
        Script.run("TEST: <, = and > on either side of k", """
            plant(0, 9)=0 plant(5, 9)=1 plant(6, 9)=2 garden"slow 1 k<1;slow 2 k=0;slow 4 k>0;slow 8 k<6;slow 16 k=6;slow 32 k>5"=0
            of(0, 4)=14 of(1, 4)=15 of(2, 4)=55
            """);
        Script.run("TEST: <, = and > on either side of v", """
            plant(6, 0)=0 plant(6, 8)=1 plant(6, 9)=2 garden"slow 1 v<1;slow 2 v=0;slow 4 v>0;slow 8 v<9;slow 16 v=9;slow 32 v>8"=0
            of(0, 4)=14 of(1, 4)=15 of(2, 4)=55
            """);
        Script.run("TEST: a number of 1 or 2 digits, 0 to 99", """
            plant(0, 0)=0 plant(0, 0)=1
            garden"slow 1 p<0;slow 2 p=00;slow 4 p>00;slow 8 p<99;slow 16 p=99;slow 32 p>99"=0 of(0, 4)=13 of(1, 4)=15
            garden"slow 1 p=01;slow 2 p=1;slow 4 p=10"=1 of(0, 4)=3 of(1, 4)=6
            """);
    }

    private static void testsOfTouches() {
        Script.run("TEST: t is how many PLANTS it TOUCHES, 0 to 7, DEAD or not", """
            plant(0, 0)*8=7 garden"slow 1 t=0;slow 2 t>0;slow 4 t<7;slow 8 t=7;slow 16 t>6"=0
            of(0, 4)=8 of(7, 4)=8
            touch(7, 0, true)=0 of(7, 4)=9 of(0, 4)=8
            touch(7, 1, true)=0 touch(7, 2, true)=0 touch(7, 3, true)=0 touch(7, 4, true)=0 touch(7, 5, true)=0 of(7, 4)=9
            touch(7, 6, true)=0 of(7, 4)=29 of(7, 2)=127
            kill(0, true)=0 kill(6, true)=0 kill(7, true)=0 of(7, 4)=29
            touch(7, 6, true)=1 of(7, 4)=29 touch(7, 6, false)=1 of(7, 4)=9
            """);
    }

    private static void testsOfHours() {
        Script.run("TEST: h is HOUR modulo 24", """
            plant(0, 0)=0 garden"slow 1 h=0;slow 2 h=23;slow 4 h>22;slow 8 h<1;slow 16 h>23;slow 32 h=24"=0
            of(0, 4)=12 pass(1)=1 of(0, 4)=3 pass(21)=22 of(0, 4)=3 pass(1)=23 of(0, 4)=9 pass(1)=24 of(0, 4)=12
            pass(23)=47 of(0, 4)=9 pass(1)=48 of(0, 4)=12 pass(99)*100=9948 pass(51)=9999 of(0, 4)=3
            garden"slow 7 h=15"=1 of(0, 4)=10
            """);
    }

    private static void testsOfDays() {
        Script.run("TEST: d is HOUR by 24 (cut; 99 at most)", """
            plant(0, 0)=0 garden"slow 1 d=98;slow 2 d=99;slow 4 d>98;slow 8 d<1;slow 16 d=1;slow 32 d<99"=0
            of(0, 4)=43 pass(23)=23 of(0, 4)=43 pass(1)=24 of(0, 4)=51 pass(23)=47 of(0, 4)=51 pass(1)=48 of(0, 4)=35
            pass(99)*23=2325 pass(50)=2375 of(0, 4)=36 pass(1)=2376 of(0, 4)=9 pass(23)=2399 of(0, 4)=9 pass(1)=2400 of(0, 4)=9
            pass(99)*76=9924 pass(75)=9999 of(0, 4)=9
            """);
    }

    private static void takes() {
        Script.run("TAKES: PEACOCK 1 less than PRIVET, 1 at least; YEW and FROSTY twice PACE; the others PACE", """
            plant(0, 9)=0 plant(1, 9)=1 plant(2, 9)=2 plant(3, 9)=3 plant(4, 9)=4 plant(5, 9)=5 plant(6, 9)=6 pass(6)=6
            of(0, 5)=3 of(1, 5)=3 of(2, 5)=6 of(3, 5)=3 of(4, 5)=2 of(5, 5)=6 of(6, 5)=3
            garden"quick 1 p<9"=0 of(0, 5)=2 of(1, 5)=2 of(2, 5)=4 of(3, 5)=2 of(4, 5)=1 of(5, 5)=4 of(6, 5)=2
            garden"quick 2 p<9"=1 of(0, 5)=1 of(1, 5)=1 of(2, 5)=2 of(3, 5)=1 of(4, 5)=1 of(5, 5)=2 of(6, 5)=1
            garden"quick 9 p<9"=2 of(0, 5)=1 of(1, 5)=1 of(2, 5)=2 of(3, 5)=1 of(4, 5)=1 of(5, 5)=2 of(6, 5)=1
            garden"slow 1 p<9"=3 of(0, 5)=4 of(2, 5)=8 of(4, 5)=3 of(5, 5)=8
            """);
    }

    private static void frost() {
        Script.run("TAKES: FROSTY takes FROST more if HOUR modulo 24 is below 6", """
            plant(5, 0)=0 plant(2, 0)=1
            of(0, 5)=26 pass(5)=5 of(0, 5)=26 of(1, 5)=6 pass(1)=6 of(0, 5)=6 pass(17)=23 of(0, 5)=6 pass(1)=24 of(0, 5)=26
            pass(5)=29 of(0, 5)=26 pass(1)=30 of(0, 5)=6 pass(18)=48 of(0, 5)=26
            garden"frost 0"=0 of(0, 5)=6 garden"frost 1"=1 of(0, 5)=7 garden"frost 99;quick 9 p=0"=2 of(0, 5)=101
            """);
        Script.run("TAKES, by HOUR as it is now, however long it takes", """
            plant(2, 0)=0 plant(5, 0)=1 plant(0, 0)=2 touch(0, 1, true)=0 touch(1, 2, true)=0
            pass(5)=5 heard(0, 0, 1, 0)=6 heard(0, 0, 2, 0)=32
            pass(1)=6 heard(0, 0, 2, 0)=12
            pass(17)=23 heard(0, 0, 2, 0)=12
            """);
    }

    private static void rowsOfHours() {
        Script.run("TAKES: TOLD takes its ROW at HOUR modulo 4 more (0 at first)", """
            plant(6, 0)=0 of(0, 5)=3
            row(0, 0, 1)=0 row(0, 1, 0)=0 row(0, 2, 9)=0 row(0, 3, 4)=0
            of(0, 5)=4 pass(1)=1 of(0, 5)=3 pass(1)=2 of(0, 5)=12 pass(1)=3 of(0, 5)=7 pass(1)=4 of(0, 5)=4
            pass(99)=103 of(0, 5)=7 pass(99)*99=9904 of(0, 5)=4 pass(95)=9999 of(0, 5)=7
            garden"quick 9 p=0"=0 of(0, 5)=5
            """);
    }

    private static void saysModulo() {
        Script.run("SAYS: each modulo 10000", """
            plant(0, 9)=0 plant(1, 9)=1 plant(2, 9)=2 plant(4, 9)=3 plant(5, 9)=4 plant(1, 0)=5 plant(4, 0)=6
            says(0, 9999)=9999 says(2, 9999)=9999 says(4, 9999)=9999
            says(1, 9990)=9999 says(1, 9991)=0 says(1, 9999)=8 says(5, 9999)=9999
            says(3, 4990)=9998 says(3, 4991)=0 says(3, 9990)=9998 says(3, 9991)=0 says(3, 9999)=16
            says(6, 4999)=9998 says(6, 5000)=0 says(6, 9999)=9998
            says(0, 0)=0 says(1, 0)=9 says(2, 0)=0 says(3, 0)=18 says(4, 0)=0
            """);
        Script.run("SAYS: TOLD modulo 10000, when nothing is lost", """
            plant(6, 9)=0 plant(3, 9)=1 garden"lose 1"=0
            says(0, 9990)=9999 says(0, 9991)=0 says(0, 9999)=8 says(1, 9999)=9999
            """);
    }

    private static void saysCut() {
        Script.run("SAYS: CLIPPED the WORD by LOSE (cut), TOLD v more behind that", """
            plant(3, 9)=0 plant(6, 9)=1
            says(0, 0)=0 says(0, 1)=0 says(0, 2)=1 says(0, 3)=1 says(0, 9999)=4999 says(1, 0)=9 says(1, 1)=9 says(1, 9999)=5008
            garden"lose 99"=0 says(0, 98)=0 says(0, 99)=1 says(0, 197)=1 says(0, 198)=2 says(0, 9999)=101 says(1, 98)=9
            garden"lose 0"=1 says(0, 9999)=9999 says(0, 1)=1 says(1, 0)=9
            """);
    }

    private static void words() {
        Script.run("4: a WORD is 0 .. 9999; NONE ahead of BAD", """
            plant(0, 0)=0
            says(0, -1)=BAD says(0, 0)=0 says(0, 9999)=9999 says(0, 10000)=BAD says(0, MIN)=BAD says(0, MAX)=BAD
            says(1, 0)=NONE says(-1, 0)=NONE says(1, 10000)=NONE says(-1, -1)=NONE says(MAX, 0)=NONE says(MIN, 0)=NONE
            """);
    }

    private static void touches() {
        Script.run("5: whether it did; BAD: one is both", """
            plant(0, 0)*8=7
            touch(0, 7, true)=0 touch(0, 7, true)=1 of(0, 2)=128 touch(0, 7, false)=1 touch(0, 7, false)=0 of(0, 2)=0
            touch(7, 0, false)=0 touch(7, 0, true)=0 of(7, 2)=1 of(0, 2)=0
            touch(0, 0, true)=BAD touch(0, 0, false)=BAD touch(7, 7, true)=BAD of(0, 2)=0 of(7, 2)=1
            """);
        Script.run("5: NONE: either one, and ahead of BAD", """
            plant(0, 0)=0 plant(0, 0)=1
            touch(0, 2, true)=NONE touch(2, 0, true)=NONE touch(0, -1, true)=NONE touch(-1, 0, true)=NONE
            touch(2, 2, true)=NONE touch(-1, -1, false)=NONE touch(MAX, 0, true)=NONE touch(0, MIN, true)=NONE
            touch(0, 32, true)=NONE touch(0, 33, true)=NONE of(0, 2)=0 of(1, 2)=0
            """);
    }

    private static void deadOrNot() {
        Script.run("6: whether it was; NONE", """
            plant(0, 0)*8=7
            kill(0, true)=0 kill(0, true)=1 kill(7, true)=0 told(3)=129 kill(7, false)=1 kill(7, false)=0 told(3)=1 kill(0, false)=1
            told(3)=0 kill(8, true)=NONE kill(-1, true)=NONE kill(MAX, true)=NONE kill(MIN, false)=NONE kill(32, true)=NONE told(3)=0
            """);
    }

    private static void rows() {
        Script.run("7: part 0 .. 3, n 0 .. 9, what it was (0 at first)", """
            plant(6, 0)=0 plant(6, 0)=1
            row(0, 0, 9)=0 row(0, 3, 8)=0 row(0, 0, 0)=9 row(0, 3, 9)=8 row(0, 0, 9)=0 row(1, 0, 5)=0 row(1, 3, 0)=0
            row(0, -1, 0)=NONE row(0, 4, 0)=NONE row(0, MIN, 0)=NONE row(0, MAX, 0)=NONE row(2, 0, 0)=NONE row(-1, 3, 0)=NONE
            row(0, 0, -1)=BAD row(0, 0, 10)=BAD row(0, 3, MIN)=BAD row(0, 3, MAX)=BAD
            row(0, 0, 0)=9 row(0, 3, 0)=9
            """);
        Script.run("7: NONE, BAD, STATE, the first that its words name", """
            plant(0, 0)=0 plant(3, 0)=1 plant(6, 0)=2
            row(0, 0, 0)=STATE row(1, 3, 9)=STATE row(1, 0, 10)=BAD row(0, 0, -1)=BAD row(1, 4, 10)=NONE row(1, -1, 0)=NONE
            row(3, 0, 10)=NONE row(2, 4, 10)=NONE kill(2, true)=0 row(2, 0, 7)=0
            """);
    }

    private static void text() {
        Script.run("8: a sign is 0 .. 127", """
            feed(-1)=BAD feed(128)=BAD feed(MIN)=BAD feed(MAX)=BAD count(5)=0 feed(0)=1 feed(127)=2 feed(128)=BAD count(5)=2
            """);
        Script.run("8: THE TEXT has 100 bytes at most", """
            feed(65)*99=99 feed(65)=100 feed(65)=FULL feed(0)=FULL feed(127)=FULL feed(-1)=BAD feed(128)=BAD count(5)=100
            garden()=-10 count(5)=0 feed(65)=1
            """);
    }

    private static void gardensSix() {
        Script.run("9: FULL: there are 6 (THE TEXT stays)", """
            garden"lose 3"=0 garden"lose 4"=1 garden"lose 5"=2 garden"lose 6"=3 garden"lose 7"=4 count(1)=5 told(2)=7
            garden"lose 8"=5 count(1)=6 told(2)=8 count(5)=0
            garden()=FULL garden"lose 9"=FULL count(5)=6 told(2)=8 garden()=FULL count(5)=6 feed(48)=7 count(1)=6 garden"x"=FULL
            count(5)=8 told(2)=8
            """);
        Script.run("9: a fault is no GARDEN, so six still come", """
            garden"x"=-10 garden"x"=-10 garden"x"=-10 garden"x"=-10 garden"x"=-10 garden"x"=-10 garden"x"=-10
            garden"lose 3"=0 garden"x"=-10 garden"lose 4"=1 garden"lose"=-14 garden"lose 5"=2 garden"lose 6"=3 garden"lose 7"=4
            garden"lose 8"=5 garden"x"=FULL count(5)=1 told(2)=8
            """);
    }

    private static void aFaultLeavesTheGarden() {
        Script.run("9: a text with a fault leaves nothing behind for the next one", """
            plant(0, 0)=0 garden"frost 7;slow 9 p<9&p<9&p<9&p<9&p<9;slow 9 p<9;lose 9;x"=-63 garden"lose 3;lose 4;slow 5 p=0&v=0"=0
            of(0, 4)=8 told(1)=20 told(2)=4
            """);
        Script.run("9: the one that held holds, and THE TEXT is empty then", """
            plant(5, 0)=0
            garden"frost 7;lose x"=-23 told(1)=20 told(2)=2 count(1)=0 count(5)=0
            garden"slow 4 p=0;frost 7;lose 9"=0 of(0, 4)=7 told(1)=7 told(2)=9
            garden"slow 9 p=0;frost 8;lose 5 "=-35 of(0, 4)=7 told(1)=7 told(2)=9 of(0, 5)=21 count(1)=1 count(5)=0
            garden"lose 3"=1 of(0, 4)=3 told(1)=20 told(2)=3
            """);
    }

    private static void frostAndLose() {
        Script.run("FROST 20 and LOSE 2 without, the last one's n", """
            told(1)=20 told(2)=2
            garden"slow 1 p=0"=0 told(1)=20 told(2)=2
            garden"frost 0"=1 told(1)=0 told(2)=2
            garden"frost 5;lose 7;frost 99;lose 99"=2 told(1)=99 told(2)=99
            garden"frost 99;lose 99;frost 0;lose 3"=3 told(1)=0 told(2)=3
            garden"lose 2"=4 told(1)=20 told(2)=2
            """);
        Script.run("LOSE: 1 if less", """
            garden"lose 0"=0 told(2)=1 garden"lose 1"=1 told(2)=1 garden"lose 00"=2 told(2)=1 garden"lose 2"=3 told(2)=2
            garden"lose 5;lose 0"=4 told(2)=1 garden"lose 0;lose 5"=5 told(2)=5
            """);
    }

    private static void told() {
        Script.run("10: what is 0 .. 3", """
            plant(0, 0)*8=7 pass(99)=99 kill(0, true)=0 kill(7, true)=0
            told(0)=99 told(1)=20 told(2)=2 told(3)=129 told(4)=NONE told(-1)=NONE told(MIN)=NONE told(MAX)=NONE
            """);
    }

    private static void hours() {
        Script.run("11: n is 0 .. 99", """
            pass(-1)=BAD pass(100)=BAD pass(MIN)=BAD pass(MAX)=BAD told(0)=0 pass(0)=0 pass(99)=99 pass(1)=100 told(0)=100
            """);
        Script.run("11: STATE: it would be above 9999; BAD ahead of that", """
            pass(99)*100=9900 pass(99)=9999 pass(1)=STATE pass(99)=STATE pass(0)=9999 pass(100)=BAD pass(-1)=BAD told(0)=9999
            """);
        Script.run("11: STATE, from a little below", """
            pass(99)*100=9900 pass(98)=9998 pass(2)=STATE told(0)=9998 pass(1)=9999 pass(0)=9999
            """);
    }
}
