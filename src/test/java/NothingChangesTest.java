/**
 * "What is answered so changes nothing; what is asked changes nothing": each call that can be refused, and each that asks,
 * on an object that holds something of everything, with room for more and without. Script looks at what comes then.
 */
public final class NothingChangesTest {
    /** Plants of every kind, one dead, a garden, hours gone, something of all rows; an image; then most of it otherwise. */
    private static final String SOME = """
        plant(6, 3)=0 plant(1, 4)=1 plant(2, 5)=2 plant(3, 6)=3 plant(4, 7)=4 plant(5, 8)=5 plant(0, 9)=6
        touch(0, 1, true)=0 touch(1, 2, true)=0 touch(2, 3, true)=0 touch(3, 4, true)=0 touch(4, 5, true)=0 touch(5, 6, true)=0
        touch(6, 0, true)=0 touch(0, 3, true)=0 touch(2, 5, true)=0 kill(4, true)=0
        row(0, 0, 1)=0 row(0, 1, 2)=0 row(0, 2, 3)=0 row(0, 3, 4)=0 garden"slow 1 p>2;frost 9;lose 3"=0 pass(5)=5
        see(1, 5, 0)=1 plan(0, 2)=1 plan(2, 0)=2 book(0, 1, 5)=1 book(0, 3, 5)=2 image()=7
        kill(4, false)=1 kill(5, true)=0 touch(6, 2, true)=0 touch(0, 3, false)=1 row(0, 2, 9)=3 garden"slow 2 p<2;lose 2"=1 pass(1)=6
        see(-1, 0, 0)=0 see(2, 9, 5)=1 plan(1, 2)=3 plan(0, 6)=4 book(-1, 0, 0)=0 book(0, 1, 14)=1 book(2, 2, 0)=2
        tape(0, 0, 3)=1 tape(1, 1, 3)=1 tape(2, 2, 3)=1 tape(3, 3, 3)=1 tape(4, 4, 49)=1 item(0, 1, 200)=1 item(1, 1, 40000)=1
        item(2, 1, -3)=1 item(3, 1, LEAST)=1 item(4, 1, 1)=1 item(4, 10, 1)=1 feed(108)=1 feed(111)=2 act(0, 2, 7)=7
        """;
    /** As many as there can be of everything. */
    private static final String ALL = """
        plant(6, 3)=0 plant(1, 4)=1 plant(2, 5)=2 plant(3, 6)=3 plant(4, 7)=4 plant(5, 8)=5 plant(0, 9)=6 plant(6, 1)=7
        touch(0, 1, true)=0 touch(1, 2, true)=0 touch(2, 3, true)=0 touch(3, 4, true)=0 touch(4, 5, true)=0 touch(5, 6, true)=0
        touch(6, 7, true)=0 touch(7, 0, true)=0 row(0, 0, 9)=0 row(7, 3, 9)=0
        garden"lose 3"=0 garden"lose 4"=1 garden"lose 5"=2 garden"lose 6"=3 garden"lose 7"=4 garden"slow 9 p=0"=5
        see(1, 5, 0)=1 see(1, 5, 0)*4=5 plan(2, 0)*7=7 plan(0, 7)=8 book(1, 2, 3)*7=7 book(7, 0, 9)=8 image()=8 kill(6, true)=0
        feed(66)*20=20 feed(65)*80=100 act(7, 2, 0)=45
        """;

    public static void main(String[] args) {
        refusedAmongPlants();
        refusedAmongQuestions();
        refusedAmongRows();
        refusedAmongTapes();
        full();
        askedOfPlants();
        askedOfHearing();
        askedOfTheRest();
        Due.end();
    }

    private static void refusedAmongPlants() {
        Script.run("refused: plants, gardens", SOME + """
            plant(-1, 0)=NONE plant(7, 0)=NONE plant(0, -1)=BAD plant(0, 10)=BAD of(7, 0)=NONE of(-1, 0)=NONE of(0, 6)=NONE of(0, -1)=NONE
            says(7, 0)=NONE says(0, -1)=BAD says(0, 10000)=BAD touch(0, 7, true)=NONE touch(7, 0, true)=NONE touch(-1, 0, true)=NONE
            touch(0, -1, true)=NONE touch(0, 0, true)=BAD touch(6, 6, true)=BAD touch(0, 7, false)=NONE touch(1, 1, false)=BAD
            kill(7, true)=NONE kill(-1, true)=NONE kill(7, false)=NONE row(7, 0, 5)=NONE row(-1, 0, 5)=NONE row(0, 4, 5)=NONE
            row(0, -1, 5)=NONE row(0, 0, 10)=BAD row(0, 3, -1)=BAD row(3, 0, 5)=STATE row(6, 3, 5)=STATE row(1, 1, 0)=STATE
            feed(-1)=BAD feed(128)=BAD told(4)=NONE told(-1)=NONE pass(-1)=BAD pass(100)=BAD
            """);
        Script.run("refused: an HOUR above 9999", SOME + "pass(99)*100=9906 pass(94)=STATE pass(99)=STATE pass(-1)=BAD");
    }

    private static void refusedAmongQuestions() {
        Script.run("refused: what is heard", SOME + """
            heard(7, 0, 0, 0)=NONE heard(0, 0, 7, 0)=NONE heard(0, 0, 0, 3)=NONE heard(0, 0, 0, -1)=NONE heard(0, -1, 0, 0)=BAD
            heard(0, 10000, 0, 0)=BAD by(7, 0)=NONE by(0, -1)=BAD by(0, 10000)=BAD right(7, 0)=NONE right(0, -1)=BAD right(0, 10000)=BAD
            last(7)=NONE last(-1)=NONE cut(7, 0, 0)=NONE cut(0, 7, 0)=NONE cut(0, 1, 2)=NONE cut(0, 0, 0)=BAD needed(7, 0)=NONE
            needed(0, 7)=NONE needed(0, 0)=BAD round(7, 0, 0)=NONE round(0, 0, 2)=NONE round(0, -1, 0)=BAD round(0, 10000, 0)=BAD
            meet(7, 0)=NONE meet(0, 7)=NONE meet(0, 0)=BAD join(7, 0, 0)=NONE join(0, 7, 0)=NONE join(0, 1, 2)=NONE join(0, 0, 0)=BAD
            listen(-1)=BAD listen(10000)=BAD who(2)=NONE who(-1)=NONE odds(7, 0, 0)=NO odds(0, 7, 0)=NO odds(0, 1, 2)=NO odds(0, 0, 0)=NO
            mean(7, 0)=NO mean(0, 2)=NO planned(7, 0)=NONE planned(0, 7)=NONE
            """);
    }

    private static void refusedAmongRows() {
        Script.run("refused: SEEN, the PLAN, the BOOK", SOME + """
            see(7, 0, 0)=NONE see(-2, 0, 0)=NONE see(0, -1, 0)=BAD see(0, 10000, 0)=BAD see(0, 0, -1)=BAD see(0, 0, 10000)=BAD
            plan(3, 0)=NONE plan(-2, 0)=NONE plan(0, 7)=NONE plan(1, -1)=NONE
            book(7, 0, 0)=NONE book(-2, 0, 0)=NONE book(0, 7, 0)=NONE book(0, -1, 0)=NONE book(0, 0, -1)=BAD book(0, 0, 10000)=BAD
            """);
        Script.run("refused: there is no IMAGE", "plant(0, 0)=0 pass(5)=5 see(0, 1, 0)=1 undo()=STATE undo()=STATE kill(0, true)=0 undo()=STATE");
    }

    private static void refusedAmongTapes() {
        Script.run("refused: TAPES", SOME + """
            judge(6, 0)=NONE judge(-1, 0)=NONE judge(0, 0)=CAST judge(3, 0)=CAST trace(12)=NONE trace(-1)=NONE taken(0, 7)=BAD
            taken(0, -1)=BAD taken(7, 0)=NOTHING taken(0, 1)=CAST count(7)=BAD count(-1)=BAD
            tape(6, 0, 3)=NONE tape(-1, 0, 3)=NONE tape(0, 5, 3)=BAD tape(1, -2, 3)=BAD tape(2, 2, 61)=BAD tape(3, 3, -1)=SIZE
            tape(4, 4, MIN)=SIZE tape(5, 0, 61)=BAD tape(5, 0, -1)=SIZE
            item(6, 0, 9)=NONE item(5, 0, 9)=NOTHING item(0, 3, 9)=PLACE item(1, -1, 9)=PLACE item(4, 49, 1)=PLACE
            read(6, 0)=NO read(5, 0)=NO read(0, 3)=NO read(0, -1)=NO
            shift(6, 0, 0, 0, 1)=NONE shift(0, 0, 6, 0, 1)=NONE shift(0, 0, 5, 0, 1)=NOTHING shift(5, 0, 0, 0, 1)=NOTHING
            shift(0, 0, 1, 0, 1)=CAST shift(3, 1, 2, 0, 1)=CAST shift(1, 0, 1, 1, 3)=PLACE shift(2, 1, 2, 0, 3)=PLACE shift(3, 1, 3, 0, -1)=PLACE
            shift(4, 1, 4, -1, 3)=PLACE shift(4, 47, 4, 0, 3)=PLACE shift(4, 0, 4, 47, 3)=PLACE
            """);
    }

    private static void full() {
        Script.run("refused: FULL", ALL + """
            plant(0, 0)=FULL plant(6, 9)=FULL feed(65)=FULL feed(0)=FULL garden()=FULL garden()=FULL see(0, 1, 1)=FULL see(7, 9999, 9999)=FULL
            plan(0, 0)=FULL plan(1, 7)=FULL plan(2, 0)=FULL book(0, 1, 1)=FULL book(7, 0, 9)=FULL count(5)=100 count(6)=12
            """);
    }

    private static void askedOfPlants() {
        Script.run("asked: plants, counts, tapes", SOME + """
            of(0, 0)=6 of(0, 1)=3 of(0, 2)=2 of(0, 3)=0 of(0, 4)=5 of(0, 5)=14 of(5, 3)=1 of(5, 5)=6 of(6, 2)=5
            says(0, 9999)=? says(1, 9999)=? says(2, 9999)=? says(3, 9999)=? says(4, 9999)=? says(5, 9999)=? says(6, 9999)=?
            told(0)=6 told(1)=20 told(2)=2 told(3)=32 count(0)=7 count(1)=2 count(2)=1 count(3)=4 count(4)=2 count(5)=2 count(6)=12
            trace(0)=40 trace(11)=10 taken(0, 0)=6 taken(0, 3)=6 taken(0, 6)=6 read(0, 1)=-56 read(1, 1)=-25536 read(2, 1)=-3 read(3, 1)=LEAST
            read(4, 1)=1 judge(4, 0)=12 judge(4, 1)=? judge(4, 48)=? judge(5, 0)=100 judge(4, -1)=100 shift(0, 0, 0, 0, 3)=3
            """);
    }

    private static void askedOfHearing() {
        Script.run("asked: what is heard, cuts, rounds", SOME + """
            heard(0, 7, 3, 0)=? heard(0, 7, 3, 1)=? heard(0, 7, 3, 2)=? heard(6, 9999, 4, 1)=? heard(5, 7, 5, 0)=NEVER by(0, 0)=1 by(0, 9999)=31
            by(5, 9999)=0 right(0, 7)=? right(0, 0)=? right(6, 9999)=? last(0)=? last(5)=NEVER last(6)=? cut(0, 4, 0)=1 cut(0, 4, 1)=2
            cut(4, 0, 0)=0 cut(4, 0, 1)=0 cut(6, 0, 0)=NEVER cut(6, 3, 1)=4 needed(0, 4)=14 needed(4, 0)=0 needed(6, 4)=12
            round(0, 7, 0)=NEVER round(0, 7, 1)=NEVER round(2, 7, 0)=? round(2, 7, 1)=? meet(0, 6)=? meet(6, 0)=? meet(5, 0)=0 meet(0, 5)=31
            join(0, 4, 0)=? join(0, 4, 1)=? join(4, 0, 0)=? join(0, 5, 0)=NEVER join(5, 0, 1)=NEVER join(6, 3, 0)=? join(2, 6, 1)=?
            listen(0)=? listen(7)=? listen(9999)=?
            """);
    }

    private static void askedOfTheRest() {
        Script.run("asked: SEEN, odds, plans, books", SOME + """
            who(0)=? who(1)=? odds(0, 4, 0)=1 odds(0, 4, 1)=4 odds(4, 0, 0)=0 odds(5, 0, 0)=0 mean(0, 0)=? mean(0, 1)=? mean(5, 0)=NO
            planned(0, 4)=? planned(0, 0)=0 planned(6, 6)=NEVER planned(0, 6)=NEVER planned(2, 2)=0 looked()=NEVER
            book(0, 1, 13)=3 looked()=2 planned(5, 5)=NEVER planned(6, 0)=NEVER
            """);
        Script.run("asked: of as many as there can be", ALL + """
            join(0, 6, 0)=? join(0, 5, 0)=? join(7, 3, 1)=? cut(0, 5, 1)=2 needed(0, 5)=30 odds(0, 5, 0)=? listen(9)=? who(0)=1 who(1)=105
            planned(0, 5)=? planned(7, 0)=NEVER looked()=7 judge(0, 0)=100 round(0, 9, 0)=NEVER mean(0, 1)=? right(0, 0)=? meet(0, 3)=?
            """);
    }
}
