/** Each sentence of the document that names an edge: Terms, part 3, acts, the image, and promises 30 to 40. */
public final class EdgesOfTapesTest {
    public static void main(String[] args) {
        judgeWhere();
        judgeFirst();
        judgeRefused();
        judgeEight();
        image();
        imageOfAll();
        imageAndGardens();
        imageLeaves();
        actRefused();
        actOfEveryKind();
        actWraps();
        actOfTheDead();
        trace();
        taken();
        count();
        tape();
        tapeAnew();
        item();
        itemsLowestBits();
        read();
        shift();
        shiftOver();
        shiftRefused();
        shiftOrder();
        Due.end();
    }

    private static void judgeWhere() {
        Script.run("30: from a place on; 100 and how many, if the row ends ahead of that", """
            plant(0, 0)*2=1 tape(5, 4, 4)=1 judge(5, 0)=NEVER judge(5, 1)=103 judge(5, 2)=102 judge(5, 3)=101 judge(5, 4)=100
            judge(5, 5)=100 judge(5, MAX)=100 judge(5, -1)=100 judge(5, -4)=100 judge(5, MIN)=100
            tape(5, 4, 3)=1 judge(5, 0)=103 judge(5, -1)=100 tape(5, 4, 0)=1 judge(5, 0)=100 judge(5, -1)=100 judge(5, 1)=100
            tape(5, 4, 5)=1 judge(5, 0)=NEVER judge(5, 1)=NEVER judge(5, 2)=103 tape(5, 4, 60)=1 judge(5, 56)=NEVER judge(5, 57)=103
            judge(5, 59)=101 judge(5, 60)=100
            """);
        Script.run("30: the TAPE holds nothing, or there is none to look at", """
            judge(0, 0)=NEVER judge(0, -1)=NEVER judge(0, MAX)=NEVER tape(0, 4, 0)=1 judge(0, 0)=NEVER tape(0, 4, 3)=1 judge(0, 3)=NEVER
            plant(0, 0)=0 judge(0, 0)=NEVER judge(0, 2)=NEVER judge(0, 3)=100 judge(1, 0)=100 judge(1, -1)=100 judge(5, MAX)=100
            tape(0, -1, 0)=1 judge(0, 0)=100
            """);
    }

    private static void judgeFirst() {
        Script.run("30: the first item that is otherwise, from 0 on to the last", """
            plant(0, 0)*3=2 tape(0, 4, 12)=1 touch(2, 1, true)=0 judge(0, 0)=21 item(0, 7, 1)=1 judge(0, 0)=NEVER
            item(0, 8, 1)=1 judge(0, 0)=22 item(0, 8, 0)=1 item(0, 9, 1)=1 judge(0, 0)=NEVER judge(0, 1)=20 item(0, 0, 5)=1 judge(0, 0)=0
            item(0, 0, 0)=1 item(0, 4, 1)=1 judge(0, 0)=11 touch(0, 1, true)=0 judge(0, 0)=1 kill(0, true)=0 judge(0, 0)=1
            touch(0, 1, false)=1 item(0, 4, 0)=1 judge(0, 0)=NEVER
            """);
        Script.run("30: what is otherwise ahead of the row's end counts", """
            plant(0, 0)*2=1 tape(0, 4, 2)=1 judge(0, 0)=102 item(0, 1, 1)=1 judge(0, 0)=1 judge(0, 1)=0 touch(0, 1, true)=0
            judge(0, 0)=102 touch(1, 0, true)=0 judge(0, 0)=102 tape(0, 4, 3)=1 item(0, 1, 1)=1 judge(0, 0)=10
            """);
    }

    private static void judgeRefused() {
        Script.run("30: NONE: TAPES are 0 .. 5; CAST: no row of booleans, wherever the place is", """
            plant(0, 0)=0 judge(-1, 0)=NONE judge(6, 0)=NONE judge(MIN, -1)=NONE judge(MAX, 0)=NONE
            tape(0, 0, 9)=1 judge(0, 0)=CAST judge(0, -1)=CAST judge(0, 9)=CAST tape(1, 1, 9)=1 judge(1, 0)=CAST
            tape(2, 2, 9)=1 judge(2, 0)=CAST tape(3, 3, 0)=1 judge(3, 0)=CAST judge(3, MIN)=CAST tape(3, 4, 0)=1 judge(3, 0)=100
            """);
        Script.run("30: CAST without PLANTS, too", "tape(0, 0, 9)=1 judge(0, 0)=CAST tape(0, 3, 0)=1 judge(0, -1)=CAST judge(6, 0)=NONE");
    }

    private static void judgeEight() {
        Script.run("30: 64 are more than a row holds", """
            plant(0, 0)*8=7 tape(0, 4, 60)=1 judge(0, 0)=160 judge(0, 1)=159 judge(0, 59)=101 judge(0, 60)=100
            touch(7, 4, true)=0 judge(0, 0)=160 touch(7, 3, true)=0 judge(0, 0)=73 judge(0, 1)=159 item(0, 59, 1)=1 judge(0, 0)=160
            """);
    }

    private static void image() {
        Script.run("32: STATE: there is none; 31: how many PLANTS there are", """
            undo()=STATE plant(0, 0)=0 undo()=STATE count(0)=1 image()=1 undo()=1 plant(0, 0)*7=7 image()=8 undo()=8 count(0)=8
            """);
        Script.run("31: THE IMAGE of no PLANTS", """
            image()=0 plant(0, 0)=0 pass(7)=7 undo()=0 count(0)=0 told(0)=0 of(0, 0)=NONE undo()=0 plant(6, 9)=0 of(0, 0)=6
            """);
        Script.run("31: the newest holds; 32: it stays", """
            plant(0, 0)=0 image()=1 plant(0, 0)=1 image()=2 plant(0, 0)=2 undo()=2 undo()=2 plant(0, 0)=2 kill(0, true)=0 undo()=2
            told(3)=0 pass(9)=9 image()=2 pass(9)=18 undo()=2 told(0)=9 undo()=2 told(0)=9
            """);
    }

    private static void imageOfAll() {
        Script.run("32: all is as THE IMAGE: PLANTS with all that is theirs", """
            plant(6, 3)=0 plant(1, 4)=1 touch(0, 1, true)=0 kill(1, true)=0 row(0, 0, 5)=0 row(0, 3, 7)=0 image()=2
            touch(0, 1, false)=1 touch(1, 0, true)=0 kill(1, false)=1 kill(0, true)=0 row(0, 0, 1)=5 row(0, 3, 2)=7 row(0, 1, 9)=0
            plant(5, 9)=2 touch(2, 0, true)=0 touch(0, 2, true)=0 kill(2, true)=0
            undo()=2 of(0, 2)=2 of(1, 2)=0 told(3)=2 of(0, 3)=0 of(1, 3)=1 row(0, 0, 0)=5 row(0, 3, 0)=7 row(0, 1, 0)=0 of(2, 0)=NONE
            kill(2, true)=NONE touch(0, 2, true)=NONE row(2, 0, 0)=NONE
            plant(6, 1)=2 of(2, 2)=0 of(2, 3)=0 of(2, 1)=1 row(2, 0, 0)=0 row(2, 3, 0)=0 told(3)=2
            """);
        Script.run("32: THE IMAGE stays as it was, whatever becomes of what it brought back", """
            plant(6, 3)=0 plant(1, 4)=1 touch(0, 1, true)=0 kill(1, true)=0 row(0, 0, 5)=0 pass(4)=4 garden"lose 3"=0 image()=2
            touch(0, 1, false)=1 kill(1, false)=1 row(0, 0, 6)=5 pass(1)=5 garden"lose 4"=1 undo()=2
            of(0, 2)=2 told(3)=2 of(0, 5)=8 told(0)=4 told(2)=3
            touch(0, 1, false)=1 touch(1, 0, true)=0 kill(1, false)=1 kill(0, true)=0 row(0, 0, 7)=5 pass(1)=5 garden"lose 5"=2 undo()=2
            of(0, 2)=2 of(1, 2)=0 told(3)=2 of(0, 5)=8 told(0)=4 told(2)=3 of(1, 0)=1 of(1, 1)=4
            """);
        Script.run("32: HOUR, SEEN, the PLAN, the BOOK", """
            plant(0, 0)*2=1 pass(7)=7 see(0, 5, 0)=1 plan(0, 0)=1 book(0, 1, 9)=1 image()=2
            pass(9)=16 see(0, 6, 0)=2 plan(1, 0)=2 plan(2, 0)=3 book(0, 0, 0)=2 undo()=2
            told(0)=7 count(2)=1 who(0)=1 who(1)=5 count(3)=1 planned(0, 0)=NEVER count(4)=1 looked()=0
            see(-1, 0, 0)=0 see(1, 9, 0)=1 plan(-1, 0)=0 plan(0, 1)=1 book(-1, 0, 0)=0 book(0, 0, 0)=1 undo()=2
            who(1)=5 planned(0, 0)=NEVER planned(1, 1)=0 looked()=0 count(2)=1 count(3)=1 count(4)=1
            see(0, 5, 0)*4=5 plan(2, 0)*7=8 book(0, 0, 0)*7=8 see(0, 5, 0)=FULL plan(2, 0)=FULL book(0, 0, 0)=FULL undo()=2
            see(0, 5, 0)=2 plan(2, 0)=2 book(0, 0, 0)=2
            """);
    }

    private static void imageAndGardens() {
        Script.run("32: which GARDEN holds; the others are as many as they are", """
            garden"lose 3"=0 image()=0 garden"lose 4"=1 told(2)=4 undo()=0 told(2)=3 count(1)=2 garden"lose 5"=2 told(2)=5 undo()=0
            told(2)=3 count(1)=3 garden"lose 6"=3 garden"lose 7"=4 garden"lose 8"=5 undo()=0 told(2)=3 garden"lose 9"=FULL told(2)=3
            count(1)=6 count(5)=6
            """);
        Script.run("32: that none holds", """
            plant(0, 0)=0 image()=1 garden"slow 9 p=0;lose 4;frost 5"=0 of(0, 4)=12 undo()=1 of(0, 4)=3 told(1)=20 told(2)=2 count(1)=1
            garden"lose 5"=1 image()=1 garden"x"=-10 undo()=1 told(2)=5
            """);
    }

    private static void imageLeaves() {
        Script.run("32: THE TEXT, TAPES and THE TRACE are none of THE IMAGE's", """
            plant(0, 0)=0 feed(108)=1 tape(0, 2, 3)=1 image()=1 feed(111)=2 item(0, 2, 9)=1 tape(1, 4, 2)=1 act(0, 2, 7)=14 undo()=1
            count(5)=2 read(0, 2)=9 read(1, 1)=0 count(6)=3 trace(0)=12 feed(115)=3 feed(101)=4 feed(32)=5 feed(55)=6 garden()=0
            undo()=1 count(5)=0 told(2)=2 tape(0, -1, 0)=1 undo()=1 read(0, 2)=NO act(0, 0, 7)=7 undo()=1 count(6)=1
            """);
        Script.run("31: what is taken changes nothing", """
            plant(6, 3)=0 pass(5)=5 row(0, 1, 4)=0 see(0, 5, 0)=1 plan(2, 0)=1 book(0, 0, 0)=1 garden"lose 3"=0 act(0, 1, 1)=1 feed(65)=1
            image()=1 image()=1 count(0)=1 count(1)=1 count(2)=1 count(3)=1 count(4)=1 count(5)=1 count(6)=5 told(0)=5 of(0, 5)=7
            """);
    }

    private static void actRefused() {
        Script.run("33: 0, and no TRACE then: no such PLANT, act", """
            act(0, 0, 5)=0 count(6)=0 plant(0, 1)=0 plant(0, 1)=1 trace(0)=NONE
            act(1, 0, 5)=6 count(6)=1 trace(0)=10 act(2, 0, 5)=0 count(6)=0 trace(0)=NONE
            act(1, 1, 5)=5 count(6)=2 act(-1, 1, 5)=0 count(6)=0 trace(0)=NONE
            act(1, 2, 5)=10 count(6)=3 act(1, 3, 5)=0 count(6)=0 trace(0)=NONE
            act(1, 2, 5)=10 trace(2)=10 act(1, -1, 5)=0 count(6)=0 trace(0)=NONE trace(2)=NONE
            act(1, 0, 5)=6 act(MAX, 0, 5)=0 count(6)=0 act(1, 0, 5)=6 act(1, MIN, 5)=0 count(6)=0
            act(1, 0, 5)=6 act(8, 3, 5)=0 count(6)=0 act(1, 0, -1)=0 count(6)=1
            """);
    }

    private static void actOfEveryKind() {
        Script.run("33: an ACT is 0 .. 2, of every KIND", """
            plant(0, 0)=0 plant(1, 0)=1 plant(2, 0)=2 plant(3, 0)=3 plant(4, 0)=4 plant(5, 0)=5 plant(6, 0)=6
            act(0, 3, 5)=0 count(6)=0 act(1, 3, 5)=0 count(6)=0 act(2, 3, 5)=0 count(6)=0 act(3, 3, 5)=0 count(6)=0 act(4, 3, 5)=0 count(6)=0
            act(5, 3, 5)=0 count(6)=0 act(6, 3, 5)=0 count(6)=0 act(0, -1, 5)=0 count(6)=0 act(1, -1, 5)=0 count(6)=0 act(2, -1, 5)=0 count(6)=0
            act(3, -1, 5)=0 count(6)=0 act(4, -1, 5)=0 count(6)=0 act(5, -1, 5)=0 count(6)=0 act(6, -1, 5)=0 count(6)=0
            act(6, MAX, 5)=0 count(6)=0 act(6, MIN, 5)=0 count(6)=0
            """);
        Script.run("33: the body of its KIND, or of the next KIND above that has one", """
            plant(0, 0)=0 plant(1, 0)=1 plant(2, 0)=2 plant(3, 0)=3 plant(4, 0)=4 plant(5, 0)=5 plant(6, 0)=6
            act(1, 0, 5)=6 trace(0)=10 count(6)=1 act(1, 1, 5)=0 trace(0)=20 trace(1)=11 act(1, 2, 5)=0 trace(0)=12 trace(1)=20 count(6)=4
            act(2, 1, 5)=17 trace(0)=11 trace(1)=30 count(6)=3 act(2, 2, 5)=34 trace(0)=12 count(6)=4
            act(3, 0, 5)=8 trace(0)=10 act(3, 1, 5)=8 trace(0)=11 act(3, 2, 5)=20 trace(0)=40 trace(1)=12 trace(2)=11 trace(4)=11 count(6)=6
            act(4, 2, 5)=-32 trace(0)=12 trace(1)=51 trace(2)=20 trace(3)=11 trace(4)=50 trace(5)=10 count(6)=6
            act(5, 0, 5)=20 trace(0)=30 act(5, 1, 5)=20 trace(0)=11 trace(1)=30 act(5, 2, 5)=10 trace(0)=60 trace(1)=12 count(6)=5
            act(6, 0, 5)=11 trace(0)=71 trace(1)=10 act(6, 1, 5)=19 trace(0)=70 count(6)=5
            """);
    }

    private static void actWraps() {
        Script.run("33: PLANT wraps", """
            plant(0, 1)=0 plant(0, 0)=1 act(1, 0, MAX)=MIN act(1, 0, MIN)=-2147483647 act(0, 0, MAX)=MAX act(0, 1, MIN)=MAX
            act(1, 2, 1073741823)=MIN act(1, 2, 1073741822)=2147483646 act(1, 2, MAX)=0 act(1, 1, -1)=0
            """);
        Script.run("33: PRIVET, YEW, CLIPPED wrap", """
            plant(2, 0)=0 plant(3, 0)=1 plant(1, 1)=2
            act(0, 0, MAX)=2147483645 act(0, 0, MIN)=MIN act(0, 0, 715827882)=2147483646 act(0, 0, 715827883)=-2147483647
            act(1, 2, 1073741823)=-2147483646 act(1, 2, MAX)=2 act(1, 1, MAX)=MIN
            act(2, 1, MAX)=-2147483642 act(2, 1, -2)=-7
            """);
        Script.run("33: PEACOCK, FROSTY, TOLD wrap", """
            plant(4, 0)=0 plant(5, 0)=1 plant(6, 9)=2
            act(0, 0, MIN)=MIN act(0, 0, MAX)=-2147483647 act(0, 0, 0)=0 act(0, 1, MAX)=-2147483642 trace(0)=51 trace(1)=20 trace(2)=11
            trace(3)=50 trace(4)=10 act(1, 2, MIN)=-4 act(2, 0, MAX)=-2147483640 act(2, 1, MIN)=-2147483642 act(2, 0, -2)=9
            """);
    }

    private static void actOfTheDead() {
        Script.run("33: an ACT of a DEAD one, and of those of number 7 and v 9", """
            plant(0, 0)*7=6 plant(0, 9)=7 kill(7, true)=0 act(7, 0, 5)=12 act(7, 1, 5)=3 act(7, 2, 5)=6 trace(0)=12 trace(2)=10
            """);
    }

    /** No ACT runs twenty bodies: the most that run are those of tells of a TOLD one. */
    private static void trace() {
        Script.run("34: the i-th body; NONE", """
            trace(0)=NONE trace(-1)=NONE plant(6, 0)=0 plant(0, 0)=1 trace(0)=NONE act(0, 2, 1)=9 count(6)=12
            trace(0)=40 trace(1)=12 trace(2)=70 trace(3)=11 trace(4)=71 trace(5)=10 trace(6)=10
            trace(7)=70 trace(8)=11 trace(9)=71 trace(10)=10 trace(11)=10 trace(12)=NONE trace(19)=NONE trace(20)=NONE trace(-1)=NONE
            trace(MIN)=NONE trace(MAX)=NONE act(1, 0, 1)=2 trace(0)=10 trace(1)=NONE trace(11)=NONE count(6)=1
            """);
    }

    private static void taken() {
        Script.run("35: of KIND k, or one under that: its KIND; CAST", """
            plant(0, 0)=0 plant(1, 0)=1 plant(2, 0)=2 plant(3, 0)=3 plant(4, 0)=4 plant(5, 0)=5 plant(6, 0)=6
            taken(0, 0)=0 taken(6, 0)=6 taken(0, 1)=CAST taken(0, 6)=CAST taken(1, 1)=1 taken(4, 1)=4 taken(1, 4)=CAST taken(5, 1)=CAST
            taken(2, 2)=2 taken(5, 2)=5 taken(2, 5)=CAST taken(4, 2)=CAST taken(3, 3)=3 taken(6, 3)=6 taken(3, 6)=CAST taken(4, 3)=CAST
            taken(4, 4)=4 taken(5, 4)=CAST taken(5, 5)=5 taken(6, 5)=CAST taken(6, 6)=6 taken(4, 6)=CAST kill(6, true)=0 taken(6, 3)=6
            """);
        Script.run("35: BAD: k is 0 .. 6; NOTHING: no such PLANT; CAST, the first that its words name", """
            plant(0, 0)=0 taken(0, -1)=BAD taken(0, 7)=BAD taken(0, MIN)=BAD taken(0, MAX)=BAD taken(1, 7)=BAD taken(-1, -1)=BAD
            taken(1, 0)=NOTHING taken(-1, 6)=NOTHING taken(8, 0)=NOTHING taken(MAX, 0)=NOTHING taken(MIN, 0)=NOTHING taken(0, 6)=CAST
            """);
    }

    private static void count() {
        Script.run("36: how many, what 0 .. 6, each at its limit", """
            count(-1)=BAD count(7)=BAD count(MIN)=BAD count(MAX)=BAD
            plant(6, 0)*8=7 garden"lose 1"=0 garden"lose 1"=1 garden"lose 1"=2 garden"lose 1"=3 garden"lose 1"=4 garden"lose 1"=5
            see(0, 0, 0)*5=5 plan(2, 0)*8=8 book(0, 0, 0)*8=8 feed(65)*100=100 act(7, 2, 0)=49
            count(0)=8 count(1)=6 count(2)=5 count(3)=8 count(4)=8 count(5)=100 count(6)=12 count(7)=BAD count(-1)=BAD
            plant(0, 0)=FULL garden()=FULL see(0, 0, 0)=FULL plan(2, 0)=FULL book(0, 0, 0)=FULL feed(65)=FULL
            """);
    }

    private static void tape() {
        Script.run("37: TAPES 0 .. 5, sorts 0 .. 4 and -1, n 0 .. 60", """
            tape(-1, 0, 1)=NONE tape(6, 0, 1)=NONE tape(MIN, 0, 1)=NONE tape(MAX, 0, 1)=NONE
            tape(0, -2, 1)=BAD tape(0, 5, 1)=BAD tape(0, MIN, 1)=BAD tape(0, MAX, 1)=BAD tape(0, 0, 61)=BAD tape(0, 4, MAX)=BAD
            tape(0, 0, -1)=SIZE tape(0, 4, MIN)=SIZE item(0, 0, 1)=NOTHING
            tape(0, 0, 0)=1 item(0, 0, 1)=PLACE tape(0, 4, 60)=1 item(0, 59, 1)=1 item(0, 60, 1)=PLACE tape(5, 3, 60)=1 item(5, 59, 1)=1
            """);
        Script.run("37: NONE, BAD, SIZE, the first that its words name", """
            tape(6, 5, 61)=NONE tape(-1, -1, -1)=NONE tape(6, 0, -1)=NONE tape(0, 5, -1)=BAD tape(0, -2, -1)=BAD tape(0, 5, 61)=BAD
            """);
        Script.run("37: sort -1: it holds nothing, n does not matter", """
            tape(3, 2, 5)=1 item(3, 4, 7)=1 tape(3, -1, -1)=1 read(3, 4)=NO item(3, 4, 7)=NOTHING tape(3, -1, 61)=1 tape(3, -1, MIN)=1
            tape(3, -1, MAX)=1 tape(3, 2, 5)=1 read(3, 4)=0
            """);
    }

    private static void tapeAnew() {
        Script.run("37: all 0, also anew, and what is refused leaves it as it is", """
            tape(1, 3, 4)=1 item(1, 0, 7)=1 item(1, 3, -1)=1 tape(1, 3, 61)=BAD tape(1, 3, -1)=SIZE tape(1, 5, 4)=BAD
            read(1, 0)=7 read(1, 3)=-1 tape(1, 3, 4)=1 read(1, 0)=0 read(1, 3)=0 item(1, 3, 5)=1 tape(1, 3, 2)=1 read(1, 1)=0 read(1, 2)=NO
            tape(1, 3, 4)=1 read(1, 3)=0 item(1, 3, 5)=1 tape(1, 0, 4)=1 read(1, 3)=0
            """);
    }

    private static void item() {
        Script.run("38: NONE, NOTHING, PLACE, the first that its words name", """
            item(-1, 0, 0)=NONE item(6, 0, 0)=NONE item(6, -1, 0)=NONE item(MIN, 0, 0)=NONE item(MAX, 0, 0)=NONE
            item(0, 0, 0)=NOTHING item(5, -1, 0)=NOTHING item(5, 60, 0)=NOTHING
            tape(5, 3, 2)=1 item(5, -1, 9)=PLACE item(5, 2, 9)=PLACE item(5, MIN, 9)=PLACE item(5, MAX, 9)=PLACE item(5, 60, 9)=PLACE
            read(5, 0)=0 read(5, 1)=0 item(5, 0, 8)=1 item(5, 1, 9)=1 read(5, 0)=8 read(5, 1)=9
            tape(5, 3, 0)=1 item(5, 0, 9)=PLACE item(5, -1, 9)=PLACE
            """);
    }

    private static void itemsLowestBits() {
        Script.run("38: its lowest bits, as many as a byte or a short has", """
            tape(0, 0, 1)=1 item(0, 0, 127)=1 read(0, 0)=127 item(0, 0, 128)=1 read(0, 0)=-128 item(0, 0, 255)=1 read(0, 0)=-1
            item(0, 0, 256)=1 read(0, 0)=0 item(0, 0, 257)=1 read(0, 0)=1 item(0, 0, -128)=1 read(0, 0)=-128 item(0, 0, -129)=1 read(0, 0)=127
            item(0, 0, MOST)=1 read(0, 0)=-1 item(0, 0, LEAST)=1 read(0, 0)=0 item(0, 0, 4294967296)=1 read(0, 0)=0
            tape(0, 1, 1)=1 item(0, 0, 32767)=1 read(0, 0)=32767 item(0, 0, 32768)=1 read(0, 0)=-32768 item(0, 0, 65535)=1 read(0, 0)=-1
            item(0, 0, 65536)=1 read(0, 0)=0 item(0, 0, -32769)=1 read(0, 0)=32767 item(0, 0, -32768)=1 read(0, 0)=-32768
            item(0, 0, MOST)=1 read(0, 0)=-1 item(0, 0, LEAST)=1 read(0, 0)=0
            """);
        Script.run("38: as many as an int or a long has; booleans: whether v is not 0", """
            tape(0, 2, 1)=1 item(0, 0, 2147483647)=1 read(0, 0)=2147483647 item(0, 0, 2147483648)=1 read(0, 0)=-2147483648
            item(0, 0, 4294967295)=1 read(0, 0)=-1 item(0, 0, 4294967296)=1 read(0, 0)=0 item(0, 0, -2147483649)=1 read(0, 0)=2147483647
            item(0, 0, MOST)=1 read(0, 0)=-1 item(0, 0, LEAST)=1 read(0, 0)=0
            tape(0, 3, 1)=1 item(0, 0, MOST)=1 read(0, 0)=MOST item(0, 0, -1)=1 read(0, 0)=-1 item(0, 0, LEAST)=1 read(0, 0)=LEAST
            tape(0, 4, 1)=1 item(0, 0, 1)=1 read(0, 0)=1 item(0, 0, 0)=1 read(0, 0)=0 item(0, 0, 2)=1 read(0, 0)=1 item(0, 0, 0)=1
            item(0, 0, 256)=1 read(0, 0)=1 item(0, 0, 0)=1 item(0, 0, 4294967296)=1 read(0, 0)=1 item(0, 0, 0)=1 read(0, 0)=0
            item(0, 0, LEAST)=1 read(0, 0)=1 item(0, 0, 0)=1 item(0, 0, -1)=1 read(0, 0)=1
            """);
    }

    private static void read() {
        Script.run("39: NO: no such TAPE, nothing there, no such place", """
            read(-1, 0)=NO read(6, 0)=NO read(MIN, 0)=NO read(MAX, 0)=NO read(0, 0)=NO read(5, 0)=NO
            tape(5, 2, 3)=1 item(5, 0, 4)=1 item(5, 2, 5)=1 read(5, 0)=4 read(5, 1)=0 read(5, 2)=5 read(5, 3)=NO read(5, -1)=NO
            read(5, MIN)=NO read(5, MAX)=NO read(4, 0)=NO tape(0, 4, 0)=1 read(0, 0)=NO tape(5, -1, 0)=1 read(5, 0)=NO
            """);
    }

    private static final String ROWS = """
        tape(0, 2, 5)=1 item(0, 0, 1)=1 item(0, 1, 2)=1 item(0, 2, 3)=1 item(0, 3, 4)=1 item(0, 4, 5)=1 tape(1, 2, 3)=1
        """;

    private static void shift() {
        Script.run("40: none, one, all; up to either's end", ROWS + """
            shift(0, 0, 1, 0, 0)=0 shift(0, 5, 1, 3, 0)=0 shift(1, 3, 0, 5, 0)=0 read(1, 0)=0
            shift(0, 4, 1, 2, 1)=1 read(1, 2)=5 shift(0, 0, 1, 0, 3)=3 read(1, 0)=1 read(1, 2)=3 shift(0, 2, 1, 0, 3)=3 read(1, 0)=3 read(1, 2)=5
            shift(1, 0, 0, 2, 3)=3 read(0, 1)=2 read(0, 2)=3 read(0, 4)=5 shift(0, 0, 0, 0, 5)=5 shift(0, 5, 0, 0, 0)=0 shift(0, 0, 0, 5, 0)=0
            tape(2, 2, 0)=1 shift(2, 0, 2, 0, 0)=0 shift(0, 0, 2, 0, 0)=0 shift(2, 0, 0, 5, 0)=0
            """);
        Script.run("40: of every sort, and longs whole", """
            tape(0, 3, 2)=1 tape(1, 3, 2)=1 item(0, 1, LEAST)=1 shift(0, 1, 1, 0, 1)=1 read(1, 0)=LEAST read(0, 1)=LEAST
            tape(2, 4, 2)=1 tape(3, 4, 2)=1 item(2, 0, 1)=1 shift(2, 0, 3, 1, 1)=1 read(3, 1)=1 tape(4, 0, 1)=1 tape(5, 0, 1)=1
            item(4, 0, -1)=1 shift(4, 0, 5, 0, 1)=1 read(5, 0)=-1 tape(4, 1, 1)=1 tape(5, 1, 1)=1 item(4, 0, -2)=1 shift(4, 0, 5, 0, 1)=1
            read(5, 0)=-2
            """);
    }

    private static void shiftOver() {
        Script.run("40: to the same, on, as they all were before", ROWS + """
            shift(0, 0, 0, 1, 4)=4 read(0, 0)=1 read(0, 1)=1 read(0, 2)=2 read(0, 3)=3 read(0, 4)=4
            """);
        Script.run("40: to the same, back, as they all were before", ROWS + """
            shift(0, 1, 0, 0, 4)=4 read(0, 0)=2 read(0, 1)=3 read(0, 2)=4 read(0, 3)=5 read(0, 4)=5
            """);
        Script.run("40: a row of sixty, whole and by one", """
            tape(0, 1, 60)=1 tape(1, 1, 60)=1 item(0, 0, 5)=1 item(0, 59, 6)=1 shift(0, 0, 1, 0, 60)=60 read(1, 0)=5 read(1, 59)=6
            shift(0, 0, 1, 0, 61)=PLACE shift(0, 1, 1, 0, 60)=PLACE shift(0, 0, 1, 1, 60)=PLACE shift(0, 0, 0, 1, 59)=59 read(0, 1)=5 read(0, 59)=0
            """);
    }

    private static void shiftRefused() {
        Script.run("40: PLACE: n, i or j is below 0, or beyond either's end", ROWS + """
            shift(0, -1, 1, 0, 1)=PLACE shift(0, 0, 1, -1, 1)=PLACE shift(0, 0, 1, 0, -1)=PLACE shift(0, -1, 1, -1, -1)=PLACE
            shift(0, -1, 1, 0, 0)=PLACE shift(0, 0, 1, -1, 0)=PLACE shift(0, 1, 1, 1, -1)=PLACE
            shift(0, 0, 1, 0, 4)=PLACE shift(0, 0, 1, 1, 3)=PLACE shift(0, 3, 1, 0, 3)=PLACE shift(0, 0, 1, 3, 1)=PLACE shift(0, 5, 1, 0, 1)=PLACE
            shift(0, 6, 1, 0, 0)=PLACE shift(0, 0, 1, 4, 0)=PLACE shift(1, 0, 0, 0, 4)=PLACE shift(0, 0, 0, 0, 6)=PLACE
            shift(0, MAX, 1, 0, 1)=PLACE shift(0, 0, 1, MAX, 1)=PLACE shift(0, 0, 1, 0, MAX)=PLACE shift(0, MAX, 1, 0, MAX)=PLACE
            shift(0, 1, 1, 1, MAX)=PLACE shift(0, MIN, 1, 0, 0)=PLACE shift(0, 0, 1, MIN, 0)=PLACE shift(0, 0, 1, 0, MIN)=PLACE
            shift(0, MIN, 1, MIN, MIN)=PLACE shift(0, MAX, 1, MAX, 1)=PLACE shift(0, MAX, 1, MAX, 0)=PLACE
            read(0, 0)=1 read(0, 4)=5 read(1, 0)=0 read(1, 2)=0
            """);
    }

    private static void shiftOrder() {
        Script.run("40: NONE, NOTHING, CAST, PLACE, the first that its words name", ROWS + """
            tape(2, 3, 5)=1
            shift(-1, 0, 0, 0, 0)=NONE shift(6, 0, 0, 0, 0)=NONE shift(0, 0, -1, 0, 0)=NONE shift(0, 0, 6, 0, 0)=NONE shift(3, -1, 6, 0, -1)=NONE
            shift(MIN, 0, 0, 0, 0)=NONE shift(0, 0, MAX, 0, 0)=NONE
            shift(0, 0, 5, 0, 0)=NOTHING shift(5, 0, 0, 0, 0)=NOTHING shift(4, 0, 5, 0, 0)=NOTHING shift(0, -1, 5, 0, -1)=NOTHING
            shift(5, 0, 2, 9, 0)=NOTHING
            shift(0, 0, 2, 0, 1)=CAST shift(2, 0, 0, 0, 0)=CAST shift(0, -1, 2, 0, 1)=CAST shift(0, 0, 2, 0, -1)=CAST shift(2, 9, 1, 9, 9)=CAST
            tape(3, 0, 1)=1 tape(4, 4, 1)=1 shift(3, 0, 4, 0, 1)=CAST shift(4, 0, 3, 0, 1)=CAST tape(5, 1, 1)=1 shift(5, 0, 3, 0, 1)=CAST
            shift(5, 0, 0, 0, 1)=CAST read(0, 0)=1
            """);
    }
}
