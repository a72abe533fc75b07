/** Each sentence of the document that names an edge: Terms, part 2, and promises 12 to 29. */
public final class EdgesOfHearingTest {
    public static void main(String[] args) {
        heard();
        heardByTheDead();
        heardFirst();
        heardAtOnce();
        heardLate();
        by();
        right();
        last();
        cutHowMany();
        cutWhich();
        cutRefused();
        needed();
        round();
        roundOfSeveral();
        meet();
        join();
        joinOfSeveral();
        listen();
        see();
        who();
        whoFindsNone();
        odds();
        oddsInLowestTerms();
        mean();
        plan();
        planned();
        plannedHours();
        book();
        looked();
        Due.end();
    }

    private static void heard() {
        Script.run("12: what is 0 .. 2, a WORD 0 .. 9999; NONE ahead of BAD", """
            plant(1, 1)=0 plant(0, 0)=1 touch(0, 1, true)=0
            heard(0, 9998, 1, 1)=9999 heard(0, 9999, 1, 0)=3 heard(0, 9999, 1, 1)=0 heard(0, 9999, 1, 2)=0 heard(0, 0, 1, 1)=1
            heard(0, 0, 1, -1)=NONE heard(0, 0, 1, 3)=NONE heard(0, 0, 1, MIN)=NONE heard(0, 0, 1, MAX)=NONE
            heard(0, -1, 1, 0)=BAD heard(0, 10000, 1, 1)=BAD heard(0, MIN, 1, 2)=BAD heard(0, MAX, 1, 0)=BAD
            heard(2, 0, 0, 0)=NONE heard(-1, 0, 0, 0)=NONE heard(0, 0, 2, 0)=NONE heard(0, 0, -1, 0)=NONE
            heard(2, -1, 0, 0)=NONE heard(0, 10000, 2, 0)=NONE heard(0, -1, 0, 3)=NONE heard(0, 10000, 0, -1)=NONE
            heard(MAX, 0, 0, 0)=NONE heard(0, 0, MIN, 0)=NONE
            """);
        Script.run("12: said to it, behind 0 HOURS, from none; never, -5 each", """
            plant(1, 1)=0 plant(0, 0)=1 touch(0, 1, true)=0
            heard(0, 9999, 0, 0)=0 heard(0, 9999, 0, 1)=9999 heard(0, 9999, 0, 2)=NEVER
            heard(1, 0, 0, 0)=NEVER heard(1, 0, 0, 1)=NEVER heard(1, 0, 0, 2)=NEVER
            """);
    }

    private static void heardByTheDead() {
        Script.run("12: DEAD ones hear nothing, and pass on nothing", """
            plant(0, 0)*3=2 touch(0, 1, true)=0 touch(1, 2, true)=0 heard(0, 5, 2, 0)=6
            kill(1, true)=0 heard(0, 5, 0, 0)=0 heard(0, 5, 1, 0)=NEVER heard(0, 5, 1, 1)=NEVER heard(0, 5, 2, 0)=NEVER
            heard(1, 5, 1, 0)=NEVER heard(1, 5, 1, 1)=NEVER heard(1, 5, 1, 2)=NEVER heard(1, 5, 2, 0)=NEVER
            kill(2, true)=0 kill(1, false)=1 heard(0, 5, 1, 0)=3 heard(0, 5, 2, 0)=NEVER heard(1, 5, 2, 0)=NEVER
            kill(2, false)=1 heard(0, 5, 2, 0)=6
            """);
    }

    private static void heardFirst() {
        Script.run("12: it hears what comes first, and all that comes later not; it passes on once", """
            plant(1, 1)=0 plant(1, 2)=1 plant(2, 0)=2 plant(0, 0)=3
            touch(0, 1, true)=0 touch(0, 2, true)=0 touch(2, 3, true)=0 touch(1, 3, true)=0 touch(3, 0, true)=0 touch(1, 0, true)=0
            heard(0, 50, 3, 0)=6 heard(0, 50, 3, 1)=53 heard(0, 50, 3, 2)=1 heard(0, 50, 0, 0)=0 heard(0, 50, 0, 1)=50
            garden"slow 3 p=1"=0 heard(0, 50, 3, 0)=9 heard(0, 50, 3, 1)=53 heard(0, 50, 3, 2)=1
            garden"slow 4 p=1"=1 heard(0, 50, 3, 0)=9 heard(0, 50, 3, 1)=51 heard(0, 50, 3, 2)=2
            garden"slow 2 p=1"=2 heard(0, 50, 3, 0)=8 heard(0, 50, 3, 1)=53 heard(0, 50, 3, 2)=1
            """);
    }

    private static void heardAtOnce() {
        Script.run("12: at once, from the least number, though that heard later", """
            plant(0, 0)=0 plant(1, 1)=1 plant(2, 0)=2 plant(0, 0)=3 plant(0, 0)=4 plant(0, 0)=5
            touch(3, 2, true)=0 touch(3, 4, true)=0 touch(2, 5, true)=0 touch(4, 1, true)=0 touch(1, 5, true)=0
            heard(3, 7, 1, 0)=6 heard(3, 7, 2, 0)=3 heard(3, 7, 5, 0)=9 heard(3, 7, 5, 1)=8 heard(3, 7, 5, 2)=1
            """);
        Script.run("12: at once, from the least number, though that heard sooner", """
            plant(0, 0)=0 plant(2, 0)=1 plant(1, 1)=2 plant(0, 0)=3 plant(0, 0)=4 plant(0, 0)=5
            touch(3, 1, true)=0 touch(3, 4, true)=0 touch(1, 5, true)=0 touch(4, 2, true)=0 touch(2, 5, true)=0
            heard(3, 7, 2, 0)=6 heard(3, 7, 1, 0)=3 heard(3, 7, 5, 0)=9 heard(3, 7, 5, 1)=7 heard(3, 7, 5, 2)=1
            """);
        Script.run("12: at once from 0", """
            plant(1, 3)=0 plant(0, 0)=1 plant(0, 0)=2 plant(0, 0)=3
            touch(1, 0, true)=0 touch(1, 2, true)=0 touch(2, 3, true)=0 touch(0, 3, true)=0
            heard(1, 7, 3, 0)=6 heard(1, 7, 3, 1)=10 heard(1, 7, 3, 2)=0
            """);
    }

    /** Six YEWS of 1568 HOURS and one TOLD of 591: behind 9999 HOURS the last one hears, and by its ROW one HOUR later. */
    private static final String LATE = """
        plant(2, 0)*6=5 plant(6, 0)=6 plant(0, 0)=7
        touch(0, 1, true)=0 touch(1, 2, true)=0 touch(2, 3, true)=0 touch(3, 4, true)=0 touch(4, 5, true)=0 touch(5, 6, true)=0
        touch(6, 7, true)=0
        garden"slow 98 p<7;slow 98 p<7;slow 98 p<7;slow 98 p<7;slow 98 p<7;slow 98 p<7;slow 97 p<6;slow 96 p<6"=0
        """;

    private static void heardLate() {
        Script.run("9999 HOURS, and n, HOURS of SEEN and of the BOOK up to there", LATE + """
            of(0, 5)=1568 of(6, 5)=591 heard(0, 0, 7, 0)=9999 by(0, 9999)=255 by(0, 9998)=127 last(0)=9999
            see(7, 0, 9999)=1 who(0)=2 who(1)=0 book(0, 7, 9999)=1 looked()=NEVER planned(0, 7)=9999
            mean(0, 0)=42927 mean(0, 1)=8
            """);
        Script.run("more than 9999 HOURS", LATE + """
            row(6, 0, 1)=0 heard(0, 0, 7, 0)=10000 by(0, 9999)=127 last(0)=10000 see(7, 0, 9999)=1 who(0)=0 who(1)=NEVER
            book(0, 7, 9999)=1 looked()=0 planned(0, 7)=10000 plan(2, 0)=1 planned(0, 7)=9999 mean(0, 0)=5366 mean(0, 1)=1
            touch(7, 0, true)=0 round(0, 0, 0)=10003 needed(0, 7)=126 join(0, 7, 0)=7 join(0, 7, 1)=1568 join(7, 6, 0)=76
            join(7, 6, 1)=3 round(7, 9999, 1)=4999
            """);
    }

    private static void by() {
        Script.run("13: behind n or fewer, n 0 .. 9999", """
            plant(0, 0)*4=3 touch(0, 1, true)=0 touch(1, 2, true)=0
            by(0, 0)=1 by(0, 2)=1 by(0, 3)=3 by(0, 5)=3 by(0, 6)=7 by(0, 9999)=7 by(3, 0)=8 by(2, 9999)=4
            by(0, -1)=BAD by(0, 10000)=BAD by(0, MIN)=BAD by(0, MAX)=BAD
            by(4, 0)=NONE by(-1, 0)=NONE by(4, -1)=NONE by(-1, 10000)=NONE
            kill(0, true)=0 by(0, 0)=0 by(0, 9999)=0 kill(1, true)=0 kill(0, false)=1 by(0, 9999)=1
            """);
    }

    private static void right() {
        Script.run("14: those others that hear just that WORD", """
            plant(0, 0)=0 plant(1, 0)=1 plant(1, 1)=2 plant(0, 0)=3 plant(0, 0)=4
            touch(0, 1, true)=0 touch(1, 2, true)=0 touch(2, 3, true)=0 touch(3, 0, true)=0
            right(0, 0)=6 right(0, 9999)=6 right(2, 5)=0 right(3, 5)=7 right(4, 5)=0
            right(0, -1)=BAD right(0, 10000)=BAD right(0, MIN)=BAD right(0, MAX)=BAD
            right(5, 0)=NONE right(-1, 0)=NONE right(5, 10000)=NONE right(-1, -1)=NONE
            kill(0, true)=0 right(0, 5)=0 right(3, 5)=0
            """);
        Script.run("14: a WORD that comes round modulo 10000 is that WORD again", """
            plant(0, 0)=0 plant(4, 0)=1 plant(4, 0)=2 plant(3, 0)=3 plant(3, 0)=4 plant(0, 0)=5
            touch(0, 1, true)=0 touch(1, 2, true)=0 touch(2, 3, true)=0 touch(3, 4, true)=0 touch(4, 5, true)=0
            right(0, 1)=34 right(0, 2499)=34 right(0, 2500)=2 right(0, 0)=62
            """);
    }

    private static void last() {
        Script.run("15: 0 if none else hears, -5: it is DEAD", """
            plant(0, 0)=0 plant(2, 0)=1 plant(0, 0)=2 touch(0, 1, true)=0 touch(1, 2, true)=0 touch(2, 0, true)=0
            last(0)=9 last(1)=9 last(2)=6 last(3)=NONE last(-1)=NONE last(MAX)=NONE last(MIN)=NONE
            kill(2, true)=0 last(0)=3 last(1)=0 last(2)=NEVER kill(1, true)=0 last(0)=0 kill(0, true)=0 last(0)=NEVER
            """);
    }

    private static void cutHowMany() {
        Script.run("16: none, one, two, three at most", """
            plant(0, 0)*8=7 cut(0, 7, 0)=0 cut(0, 7, 1)=0
            touch(0, 1, true)=0 cut(0, 7, 0)=0 touch(1, 7, true)=0 cut(0, 7, 0)=1 cut(0, 7, 1)=2
            touch(0, 2, true)=0 touch(2, 7, true)=0 cut(0, 7, 0)=2 cut(0, 7, 1)=6
            touch(0, 3, true)=0 touch(3, 7, true)=0 cut(0, 7, 0)=3 cut(0, 7, 1)=14
            touch(0, 4, true)=0 touch(4, 7, true)=0 cut(0, 7, 0)=NEVER cut(0, 7, 1)=NEVER
            kill(1, true)=0 cut(0, 7, 0)=3 cut(0, 7, 1)=28 cut(7, 0, 0)=0 cut(7, 0, 1)=0
            """);
        Script.run("16: no others are enough where it TOUCHES it; none are wanted where one is DEAD", """
            plant(0, 0)*8=7 touch(0, 7, true)=0 cut(0, 7, 0)=NEVER cut(0, 7, 1)=NEVER
            touch(0, 1, true)=0 touch(1, 7, true)=0 cut(0, 7, 0)=NEVER cut(0, 7, 1)=NEVER
            kill(0, true)=0 cut(0, 7, 0)=0 cut(0, 7, 1)=0 kill(0, false)=1 kill(7, true)=0 cut(0, 7, 0)=0 cut(0, 7, 1)=0
            """);
    }

    private static void cutWhich() {
        Script.run("16: of several the least, as bits", """
            plant(0, 0)*8=7 touch(0, 3, true)=0 touch(3, 2, true)=0 touch(2, 1, true)=0 cut(0, 1, 0)=1 cut(0, 1, 1)=4
            touch(7, 6, true)=0 touch(6, 5, true)=0 touch(5, 4, true)=0 cut(7, 4, 1)=32
            """);
        Script.run("16: of several pairs the least, as bits", """
            plant(0, 0)*8=7 touch(0, 2, true)=0 touch(0, 3, true)=0 touch(2, 4, true)=0 touch(3, 5, true)=0
            touch(4, 1, true)=0 touch(5, 1, true)=0 cut(0, 1, 0)=2 cut(0, 1, 1)=12
            touch(2, 5, true)=0 cut(0, 1, 1)=12 touch(3, 6, true)=0 touch(6, 1, true)=0 cut(0, 1, 1)=12
            touch(0, 7, true)=0 touch(7, 6, true)=0 cut(0, 1, 0)=3 cut(0, 1, 1)=76
            """);
        Script.run("16: the fewest, though others are less as bits", """
            plant(0, 0)*8=7 touch(0, 2, true)=0 touch(0, 3, true)=0 touch(2, 7, true)=0 touch(3, 7, true)=0 touch(7, 1, true)=0
            cut(0, 1, 0)=1 cut(0, 1, 1)=128
            """);
    }

    private static void cutRefused() {
        Script.run("16: what is 0, 1; NONE; BAD: one is both", """
            plant(0, 0)*2=1
            cut(0, 1, -1)=NONE cut(0, 1, 2)=NONE cut(0, 1, MIN)=NONE cut(0, 1, MAX)=NONE cut(2, 0, 0)=NONE cut(0, 2, 0)=NONE
            cut(-1, 0, 0)=NONE cut(0, -1, 0)=NONE cut(2, 2, 0)=NONE cut(0, 0, 2)=NONE cut(0, 0, 0)=BAD cut(1, 1, 1)=BAD
            """);
    }

    private static void needed() {
        Script.run("17: all that it goes through; else 0", """
            plant(0, 0)*8=7 needed(0, 7)=0
            touch(0, 1, true)=0 touch(1, 2, true)=0 touch(2, 3, true)=0 touch(3, 4, true)=0 touch(4, 5, true)=0 touch(5, 6, true)=0
            needed(0, 7)=0 touch(6, 7, true)=0 needed(0, 7)=126 needed(0, 1)=0 needed(0, 2)=2 needed(7, 0)=0
            touch(3, 5, true)=0 needed(0, 7)=110 touch(0, 7, true)=0 needed(0, 7)=0 touch(0, 7, false)=1
            kill(4, true)=0 needed(0, 7)=110 kill(3, true)=0 needed(0, 7)=0 kill(3, false)=1
            kill(7, true)=0 needed(0, 7)=0 kill(7, false)=1 kill(0, true)=0 needed(0, 7)=0
            """);
        Script.run("17: down to 0, and by 0", """
            plant(0, 0)*8=7 touch(7, 6, true)=0 touch(6, 5, true)=0 touch(5, 4, true)=0 touch(4, 3, true)=0 touch(3, 2, true)=0
            touch(2, 1, true)=0 needed(7, 0)=0 cut(7, 0, 0)=0 touch(1, 0, true)=0 needed(7, 0)=126 cut(7, 0, 0)=1 cut(7, 0, 1)=2
            odds(7, 0, 0)=0 odds(7, 0, 1)=1 touch(0, 7, true)=0 needed(1, 6)=129 cut(1, 6, 1)=1 needed(1, 7)=1 odds(1, 7, 0)=5 odds(1, 7, 1)=6
            """);
        Script.run("17: NONE; BAD: one is both", """
            plant(0, 0)*2=1 needed(0, 0)=BAD needed(1, 1)=BAD needed(2, 2)=NONE needed(-1, -1)=NONE needed(0, 2)=NONE needed(2, 0)=NONE
            needed(0, -1)=NONE needed(-1, 0)=NONE needed(0, MAX)=NONE needed(MIN, 0)=NONE
            """);
    }

    private static void round() {
        Script.run("18: behind how many HOURS and what, or never", """
            plant(1, 1)=0 plant(1, 1)=1 plant(0, 0)=2
            round(0, 5, 0)=NEVER round(0, 5, 1)=NEVER touch(0, 1, true)=0 round(0, 5, 0)=NEVER touch(2, 0, true)=0 round(0, 5, 1)=NEVER
            touch(1, 0, true)=0 round(0, 9997, 0)=6 round(0, 9997, 1)=9999 round(0, 9998, 1)=0 round(0, 9999, 1)=1 round(0, 0, 1)=2
            round(1, 9998, 1)=0 round(2, 5, 0)=NEVER
            kill(1, true)=0 round(0, 5, 0)=NEVER round(0, 5, 1)=NEVER round(1, 5, 0)=NEVER kill(1, false)=1
            kill(0, true)=0 round(0, 5, 0)=NEVER round(0, 5, 1)=NEVER round(1, 5, 0)=NEVER
            """);
        Script.run("18: what is 0, 1; a WORD 0 .. 9999; NONE ahead of BAD", """
            plant(0, 0)*2=1
            round(0, 0, -1)=NONE round(0, 0, 2)=NONE round(0, 0, MIN)=NONE round(0, 0, MAX)=NONE round(2, 0, 0)=NONE round(-1, 0, 0)=NONE
            round(0, -1, 0)=BAD round(0, 10000, 1)=BAD round(0, MIN, 0)=BAD round(0, MAX, 0)=BAD
            round(2, -1, 0)=NONE round(0, 10000, 2)=NONE
            """);
    }

    private static void roundOfSeveral() {
        Script.run("18: the first of all; of several that of the least number", """
            plant(0, 0)=0 plant(1, 1)=1 plant(1, 2)=2 plant(1, 3)=3
            touch(0, 2, true)=0 touch(0, 3, true)=0 touch(2, 0, true)=0 touch(3, 0, true)=0 round(0, 5, 0)=6 round(0, 5, 1)=7
            garden"slow 1 p=2"=0 round(0, 5, 0)=6 round(0, 5, 1)=8
            garden"slow 3 p=3"=1 round(0, 5, 0)=6 round(0, 5, 1)=7
            touch(3, 1, true)=0 touch(1, 0, true)=0 touch(3, 0, false)=1
            garden"slow 6 p=2;quick 1 p=1;slow 1 p=3"=2 round(0, 5, 0)=9 round(0, 5, 1)=9
            garden"slow 3 p=2"=3 round(0, 5, 0)=9 round(0, 5, 1)=9
            garden"slow 2 p=2"=4 round(0, 5, 0)=8 round(0, 5, 1)=7
            """);
    }

    private static void meet() {
        Script.run("19: what comes at once from the PLANT with the least number", """
            plant(0, 0)*6=5 meet(0, 1)=1 meet(1, 0)=2
            touch(0, 3, true)=0 touch(1, 2, true)=0 touch(3, 4, true)=0 touch(2, 4, true)=0 touch(0, 1, true)=0 touch(1, 0, true)=0
            meet(0, 1)=9 meet(1, 0)=22
            garden"slow 1 p=2"=0 meet(0, 1)=25 meet(1, 0)=6
            kill(0, true)=0 meet(0, 1)=0 meet(1, 0)=22 kill(1, true)=0 meet(1, 0)=0 kill(0, false)=1 meet(0, 1)=25
            """);
        Script.run("19: NONE; BAD: one is both", """
            plant(0, 0)*2=1 meet(0, 0)=BAD meet(1, 1)=BAD meet(2, 2)=NONE meet(-1, -1)=NONE meet(0, 2)=NONE meet(2, 0)=NONE
            meet(0, -1)=NONE meet(-1, 0)=NONE meet(0, MIN)=NONE meet(MAX, 0)=NONE
            """);
    }

    private static void join() {
        Script.run("20: sooner than as it is, and never is later than any", """
            plant(0, 0)*3=2 join(0, 2, 0)=2 join(0, 2, 1)=3 join(2, 1, 0)=21 join(2, 1, 1)=3 join(2, 0, 0)=20
            touch(0, 1, true)=0 touch(1, 2, true)=0 join(0, 2, 0)=2 join(0, 2, 1)=3 join(0, 1, 0)=NEVER join(0, 1, 1)=NEVER
            touch(0, 2, true)=0 join(0, 2, 0)=NEVER join(0, 2, 1)=NEVER
            touch(0, 2, false)=1 kill(2, true)=0 join(0, 2, 0)=NEVER join(0, 2, 1)=NEVER join(2, 0, 0)=NEVER join(2, 0, 1)=NEVER
            """);
        Script.run("20: what is 0, 1; NONE; BAD: one is both", """
            plant(0, 0)*2=1
            join(0, 1, -1)=NONE join(0, 1, 2)=NONE join(0, 1, MIN)=NONE join(0, 1, MAX)=NONE join(2, 0, 0)=NONE join(0, 2, 0)=NONE
            join(-1, 0, 0)=NONE join(0, -1, 0)=NONE join(2, 2, 0)=NONE join(0, 0, 2)=NONE join(0, 0, 0)=BAD join(1, 1, 1)=BAD
            """);
    }

    private static void joinOfSeveral() {
        Script.run("20: of several the first", """
            plant(0, 0)*4=3 touch(0, 1, true)=0 touch(0, 2, true)=0 garden"slow 9 t=3&p=0"=0 join(0, 3, 0)=13 join(0, 3, 1)=6
            garden"slow 3 t=3&p=0"=1 join(0, 3, 0)=3 join(0, 3, 1)=6
            garden"slow 4 t=3&p=0"=2 join(0, 3, 0)=13 join(0, 3, 1)=6
            touch(0, 2, false)=1 touch(0, 1, false)=1 touch(0, 3, true)=0
            garden"quick 2 t=2"=3 join(0, 3, 0)=1 join(0, 3, 1)=1
            garden"quick 1 t=2"=4 join(0, 3, 0)=1 join(0, 3, 1)=2 touch(0, 1, true)=0 join(0, 3, 0)=NEVER
            """);
        Script.run("20: none that TOUCHES all others should TOUCH one more", """
            plant(0, 0)*2=1 touch(0, 1, true)=0 garden"quick 2 t=2"=0 join(0, 1, 0)=NEVER join(0, 1, 1)=NEVER join(1, 0, 0)=10
            plant(0, 0)=2 join(0, 1, 0)=2 join(0, 1, 1)=1 touch(0, 2, true)=0 garden"quick 2 t=3"=1 join(0, 1, 0)=NEVER
            plant(0, 0)*5=7 join(0, 1, 0)=3 touch(0, 3, true)=0 touch(0, 4, true)=0 touch(0, 5, true)=0 touch(0, 6, true)=0
            garden"quick 2 t=7"=2 join(0, 1, 0)=7 touch(0, 7, true)=0 garden"quick 2 t>7"=3 join(0, 1, 0)=NEVER join(7, 1, 0)=71 join(6, 7, 0)=67
            join(6, 7, 1)=3 touch(7, 0, true)=0 join(7, 6, 0)=76 join(7, 6, 1)=3
            """);
    }

    private static void listen() {
        Script.run("21: of several the first, each such being counted once", """
            listen(0)=NEVER plant(0, 0)=0 listen(0)=0 plant(0, 0)=1 listen(0)=0 touch(0, 1, true)=0 listen(0)=0
            plant(0, 0)=2 listen(0)=1 touch(1, 2, true)=0 listen(0)=1 kill(2, true)=0 listen(0)=1 kill(2, false)=1 kill(1, true)=0
            listen(0)=0 kill(0, true)=0 listen(0)=2 kill(2, true)=0 listen(0)=0
            """);
        Script.run("21: in how many HOURS and what", """
            plant(3, 0)=0 plant(0, 0)=1 plant(0, 0)=2 touch(0, 2, true)=0 touch(1, 2, true)=0
            listen(0)=0 listen(1)=2 listen(9999)=2 garden"lose 1"=0 listen(9999)=0 garden"lose 1;slow 1 p=0"=1 listen(9999)=2
            """);
        Script.run("21: among eight", """
            plant(0, 0)*8=7 listen(5)=0 touch(0, 7, true)=0 listen(5)=7 touch(1, 6, true)=0 listen(5)=6 touch(6, 7, true)=0 listen(5)=7
            touch(7, 0, true)=0 touch(5, 1, true)=0 touch(4, 5, true)=0 touch(3, 4, true)=0 touch(2, 3, true)=0 listen(5)=0 touch(0, 2, true)=0
            listen(5)=0 kill(2, true)=0 listen(5)=0 kill(7, true)=0 listen(5)=6
            """);
        Script.run("21: as many HOURS more as the WORD is less are unlike all the same", """
            plant(1, 3)=0 plant(2, 0)=1 plant(0, 0)=2 touch(0, 2, true)=0 touch(1, 2, true)=0 listen(7)=2 listen(9999)=2
            garden"quick 1 p=1;slow 1 p=0"=0 listen(7)=2
            """);
        Script.run("21: a WORD is 0 .. 9999, also where there are none", """
            listen(-1)=BAD listen(10000)=BAD listen(MIN)=BAD listen(MAX)=BAD listen(0)=NEVER listen(9999)=NEVER
            plant(0, 0)=0 listen(-1)=BAD listen(10000)=BAD listen(0)=0 listen(9999)=0
            """);
    }

    private static void see() {
        Script.run("22: plant -1: none then, whatever the others are", """
            see(-1, -1, -1)=0 see(-1, 10000, 10000)=0 see(-1, MIN, MAX)=0 plant(0, 0)=0 see(0, 5, 5)=1 see(0, 5, 5)=2 count(2)=2
            see(-1, -1, 10000)=0 count(2)=0 see(0, 5, 5)=1
            """);
        Script.run("22: a WORD and HOURS 0 .. 9999; NONE ahead of BAD", """
            plant(0, 0)*8=7
            see(0, -1, 0)=BAD see(0, 10000, 0)=BAD see(0, 0, -1)=BAD see(0, 0, 10000)=BAD see(0, MIN, 0)=BAD see(0, 0, MAX)=BAD
            see(8, 0, 0)=NONE see(-2, 0, 0)=NONE see(MIN, 0, 0)=NONE see(8, -1, 0)=NONE see(-2, 0, 10000)=NONE count(2)=0
            see(0, 0, 0)=1 see(7, 9999, 9999)=2 count(2)=2
            """);
        Script.run("22: FULL: 5, behind NONE and BAD", """
            plant(0, 0)=0 see(0, 0, 0)*4=4 see(0, 0, 0)=5 see(0, 0, 0)=FULL see(0, 9999, 9999)=FULL see(0, 10000, 0)=BAD
            see(0, 0, -1)=BAD see(1, 0, 0)=NONE see(-2, 0, 0)=NONE count(2)=5 who(0)=1 see(-1, 0, 0)=0 see(0, 1, 0)=1 who(1)=1
            """);
    }

    private static void who() {
        Script.run("23: a WORD 0 .. 99 said to a PLANT, by PLANTS, then by WORDS", """
            plant(0, 0)*8=7 who(0)=800 who(1)=0
            see(7, 99, 0)=1 who(0)=1 who(1)=799 see(-1, 0, 0)=0
            see(7, 100, 0)=1 who(0)=0 who(1)=NEVER see(-1, 0, 0)=0 see(7, 0, 0)=1 who(0)=1 who(1)=700 see(-1, 0, 0)=0
            see(0, 99, 0)=1 who(1)=99 see(-1, 0, 0)=0 see(0, 0, 0)=1 who(0)=1 who(1)=0
            who(-1)=NONE who(2)=NONE who(MIN)=NONE who(MAX)=NONE
            """);
        Script.run("23: a WORD above 99 can be heard, if not said", """
            plant(1, 1)=0 plant(0, 0)=1 touch(0, 1, true)=0 see(1, 100, 3)=1 who(0)=1 who(1)=99
            see(-1, 0, 0)=0 see(1, 101, 3)=1 who(0)=0 see(-1, 0, 0)=0 see(1, 0, 3)=1 who(0)=0
            see(-1, 0, 0)=0 see(1, 1, 3)=1 who(0)=1 who(1)=0 see(-1, 0, 0)=0 see(1, 1, 2)=1 who(0)=0
            """);
        Script.run("23: in how many ways, and the first of them", """
            plant(3, 0)=0 plant(3, 0)=1 plant(0, 0)=2 touch(1, 2, true)=0 touch(0, 2, true)=0
            see(2, 49, 3)=1 who(0)=4 who(1)=98 see(1, 98, 0)=2 who(0)=1 who(1)=198
            """);
    }

    private static void whoFindsNone() {
        Script.run("23: all of SEEN is so, or it is none", """
            plant(0, 0)*3=2 touch(0, 1, true)=0
            see(1, 5, 3)=1 who(0)=1 who(1)=5 see(1, 5, 3)=2 see(1, 5, 3)=3 see(1, 5, 3)=4 who(0)=1 see(1, 5, 4)=5 who(0)=0 who(1)=NEVER
            see(-1, 0, 0)=0 see(1, 5, 3)=1 see(1, 6, 3)=2 who(0)=0 see(-1, 0, 0)=0 see(1, 5, 3)=1 see(2, 5, 6)=2 who(0)=0
            see(-1, 0, 0)=0 see(1, 5, 3)=1 kill(1, true)=0 who(0)=0 who(1)=NEVER kill(1, false)=1 kill(0, true)=0 who(0)=0
            """);
    }

    private static void odds() {
        Script.run("24: NO: there are no such, no such PLANT, part, one is both", """
            plant(0, 0)*2=1 touch(0, 1, true)=0 odds(0, 1, 0)=NO odds(0, 1, 1)=NO
            plant(0, 0)=2 odds(0, 1, 0)=1 odds(0, 1, 1)=1 odds(1, 0, 0)=0 odds(1, 0, 1)=1
            kill(2, true)=0 odds(0, 1, 0)=NO odds(0, 1, 1)=NO kill(2, false)=1
            odds(0, 1, -1)=NO odds(0, 1, 2)=NO odds(0, 1, MIN)=NO odds(0, 1, MAX)=NO odds(0, 0, 0)=NO odds(1, 1, 1)=NO
            odds(0, 3, 0)=NO odds(3, 0, 0)=NO odds(-1, 0, 0)=NO odds(0, -1, 1)=NO odds(MAX, 0, 0)=NO odds(0, MIN, 0)=NO
            """);
    }

    private static void oddsInLowestTerms() {
        Script.run("24: a fraction in lowest terms, of all others that are not DEAD", """
            plant(0, 0)*8=7 touch(0, 1, true)=0 touch(1, 7, true)=0 odds(0, 7, 0)=5 odds(0, 7, 1)=6
            touch(1, 7, false)=1 touch(1, 2, true)=0 touch(2, 7, true)=0 odds(0, 7, 0)=2 odds(0, 7, 1)=3
            touch(2, 7, false)=1 touch(2, 3, true)=0 touch(3, 7, true)=0 odds(0, 7, 0)=1 odds(0, 7, 1)=2
            touch(3, 7, false)=1 touch(3, 4, true)=0 touch(4, 7, true)=0 odds(0, 7, 0)=1 odds(0, 7, 1)=3
            touch(4, 7, false)=1 touch(4, 5, true)=0 touch(5, 7, true)=0 odds(0, 7, 0)=1 odds(0, 7, 1)=6
            kill(6, true)=0 odds(0, 7, 0)=0 odds(0, 7, 1)=1
            touch(0, 7, true)=0 odds(0, 7, 0)=1 odds(0, 7, 1)=1 kill(0, true)=0 odds(0, 7, 0)=0 odds(0, 7, 1)=1
            kill(0, false)=1 kill(7, true)=0 odds(0, 7, 0)=0 odds(0, 7, 1)=1
            """);
    }

    private static void mean() {
        Script.run("25: a fraction in lowest terms, NO: none hears", """
            plant(0, 0)*4=3 mean(0, 0)=0 mean(0, 1)=1 touch(0, 1, true)=0 mean(0, 0)=3 mean(0, 1)=2
            touch(1, 2, true)=0 mean(0, 0)=3 mean(0, 1)=1 touch(0, 3, true)=0 mean(0, 0)=3 mean(0, 1)=1
            touch(0, 2, true)=0 mean(0, 0)=9 mean(0, 1)=4 kill(3, true)=0 mean(0, 0)=2 mean(0, 1)=1
            kill(0, true)=0 mean(0, 0)=NO mean(0, 1)=NO mean(3, 0)=NO mean(1, 0)=3 mean(1, 1)=2
            mean(1, -1)=NO mean(1, 2)=NO mean(1, MIN)=NO mean(1, MAX)=NO mean(4, 0)=NO mean(-1, 1)=NO mean(MAX, 0)=NO
            """);
    }

    private static void plan() {
        Script.run("26: what -1: it is empty then, whatever the other is", """
            plan(-1, -1)=0 plan(-1, MAX)=0 plan(2, 0)=1 plan(2, 0)=2 count(3)=2 plan(-1, 8)=0 count(3)=0 plan(2, 0)=1
            """);
        Script.run("26: NONE: what, and plant but for 2", """
            plant(0, 0)=0
            plan(-2, 0)=NONE plan(3, 0)=NONE plan(MIN, 0)=NONE plan(MAX, 0)=NONE plan(0, 1)=NONE plan(0, -1)=NONE plan(1, 1)=NONE
            plan(1, -1)=NONE plan(0, MIN)=NONE plan(1, MAX)=NONE count(3)=0
            plan(0, 0)=1 plan(1, 0)=2 plan(2, -1)=3 plan(2, 1)=4 plan(2, MIN)=5 plan(2, MAX)=6 count(3)=6
            """);
        Script.run("26: FULL: 8, behind NONE", """
            plant(0, 0)=0 plan(1, 0)*7=7 plan(1, 0)=8 plan(1, 0)=FULL plan(0, 0)=FULL plan(2, 0)=FULL plan(2, 9)=FULL
            plan(3, 0)=NONE plan(-2, 0)=NONE plan(0, 1)=NONE count(3)=8 planned(0, 0)=0 plan(-1, 0)=0 plan(0, 0)=1 planned(0, 0)=NEVER
            """);
    }

    private static void planned() {
        Script.run("27: all of it being done, row by row", """
            plant(0, 0)*3=2 touch(0, 1, true)=0 touch(1, 2, true)=0 planned(0, 2)=6 planned(2, 0)=NEVER planned(1, 1)=0
            plan(0, 1)=1 planned(0, 2)=NEVER planned(0, 1)=NEVER planned(1, 1)=NEVER planned(1, 2)=NEVER planned(0, 0)=0
            plan(0, 1)=2 planned(0, 2)=NEVER plan(1, 1)=3 planned(0, 2)=6 planned(1, 1)=0 plan(0, 1)=4 planned(0, 2)=NEVER
            plan(1, 1)=5 plan(0, 2)=6 planned(0, 2)=NEVER planned(0, 1)=3 plan(1, 2)=7 plan(0, 0)=8 planned(0, 1)=NEVER planned(1, 2)=3
            told(3)=0 told(0)=0 heard(0, 0, 2, 0)=6
            planned(3, 0)=NONE planned(0, 3)=NONE planned(-1, 0)=NONE planned(0, -1)=NONE planned(MIN, 0)=NONE planned(0, MAX)=NONE
            """);
        Script.run("27: one that is DEAD now is so until a row says otherwise", """
            plant(0, 0)*2=1 touch(0, 1, true)=0 kill(1, true)=0 planned(0, 1)=NEVER plan(2, 0)=1 planned(0, 1)=NEVER plan(1, 0)=2
            planned(0, 1)=NEVER plan(1, 1)=3 planned(0, 1)=3 told(3)=2
            """);
    }

    private static void plannedHours() {
        Script.run("27: six HOURS go with each such row", """
            plant(5, 0)=0 plant(0, 0)=1 touch(0, 1, true)=0 planned(0, 1)=26 plan(2, 0)=1 planned(0, 1)=6 plan(2, 0)=2 planned(0, 1)=6
            plan(2, 0)=3 planned(0, 1)=6 plan(2, 0)=4 planned(0, 1)=26 plan(2, 0)=5 planned(0, 1)=6 told(0)=0
            plan(-1, 0)=0 pass(23)=23 planned(0, 1)=6 plan(2, 0)=1 planned(0, 1)=26 pass(1)=24 planned(0, 1)=6
            """);
        Script.run("27: by the ROW of the HOUR then, up to eight rows on", """
            plant(6, 0)=0 plant(0, 0)=1 touch(0, 1, true)=0 row(0, 0, 1)=0 row(0, 1, 2)=0 row(0, 2, 3)=0 row(0, 3, 4)=0
            planned(0, 1)=4 plan(2, 0)=1 planned(0, 1)=6 plan(2, 0)=2 planned(0, 1)=4 pass(1)=1 planned(0, 1)=5
            plan(2, 0)=3 planned(0, 1)=7 plan(2, 0)*5=8 planned(0, 1)=5 garden"slow 5 d=2;slow 9 h=1"=0 planned(0, 1)=19
            """);
        Script.run("27: by number, KIND, v and TOUCHES as they are", """
            plant(6, 4)=0 plant(2, 7)=1 plant(0, 0)=2 touch(0, 1, true)=0 touch(1, 2, true)=0 touch(1, 0, true)=0 planned(0, 2)=9
            garden"slow 1 v=4;slow 2 v=7;slow 8 v=0;slow 10 k=6;slow 20 k=2;slow 40 p=1;slow 50 t=2;slow 60 t=1"=0
            planned(0, 1)=74 planned(1, 2)=230 planned(0, 2)=304 plan(2, 0)=1 planned(0, 2)=304 plan(0, 2)=2 planned(0, 1)=74 planned(1, 0)=230
            """);
        Script.run("27: six HOURS go beyond 9999, too", """
            plant(0, 0)=0 plant(0, 0)=1 touch(0, 1, true)=0 pass(99)*100=9900 pass(94)=9994 garden"slow 1 h=16;slow 2 h=15;slow 4 d=99"=0
            planned(0, 1)=7 plan(2, 0)=1 planned(0, 1)=8 told(0)=9994 pass(5)=9999 planned(0, 1)=7 plan(-1, 0)=0 planned(0, 1)=9
            """);
    }

    private static void book() {
        Script.run("28: one -1: it is empty then, whatever the others are", """
            book(-1, -1, -1)=0 book(-1, MIN, 10000)=0 plant(0, 0)=0 book(0, 0, 1)=1 book(0, 0, 1)=2 looked()=0 book(-1, 8, -1)=0
            count(4)=0 looked()=NEVER book(0, 0, 0)=1
            """);
        Script.run("28: HOURS 0 .. 9999; NONE ahead of BAD", """
            plant(0, 0)*8=7
            book(0, 0, -1)=BAD book(0, 0, 10000)=BAD book(0, 7, MIN)=BAD book(0, 7, MAX)=BAD
            book(8, 0, 0)=NONE book(0, 8, 0)=NONE book(-2, 0, 0)=NONE book(0, -1, 0)=NONE book(8, 0, -1)=NONE book(0, -1, 10000)=NONE
            book(MIN, 0, 0)=NONE book(0, MAX, 0)=NONE count(4)=0 book(7, 0, 0)=1 book(0, 7, 9999)=2 count(4)=2
            """);
        Script.run("28: FULL: 8, behind NONE and BAD", """
            plant(0, 0)=0 book(0, 0, 0)*7=7 book(0, 0, 0)=8 book(0, 0, 0)=FULL book(0, 0, 9999)=FULL book(0, 0, 10000)=BAD
            book(0, 0, -1)=BAD book(1, 0, 0)=NONE book(0, 1, 0)=NONE book(-2, 0, 0)=NONE count(4)=8 looked()=NEVER
            book(-1, 0, 0)=0 book(0, 0, 1)=1 looked()=0
            """);
    }

    private static void looked() {
        Script.run("29: the number of the first row that is not so, from 0 on to 7", """
            plant(0, 0)*3=2 touch(0, 1, true)=0 looked()=NEVER
            book(0, 1, 3)*7=7 looked()=NEVER book(0, 1, 4)=8 looked()=7
            book(-1, 0, 0)=0 book(0, 1, 2)=1 looked()=0 book(0, 1, 4)=2 looked()=0
            book(-1, 0, 0)=0 book(0, 1, 3)=1 book(0, 0, 0)=2 book(1, 0, 0)=3 book(0, 1, 4)=4 looked()=2 touch(1, 0, true)=0 looked()=2
            kill(0, true)=0 looked()=0 kill(0, false)=1 kill(1, true)=0 looked()=0
            """);
        Script.run("29: never is behind no HOURS", """
            plant(0, 0)*2=1 book(0, 1, 0)=1 looked()=0 book(-1, 0, 0)=0 book(0, 0, 0)=1 looked()=NEVER kill(0, true)=0 looked()=0
            book(-1, 0, 0)=0 book(0, 1, 9999)=1 looked()=0
            """);
    }
}
