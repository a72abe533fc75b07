/**
 * Plants that pass on what is said to them, hour by hour, to the plants they touch.
 * The document ../shared/DOC.md says what each call answers, as numbered promises.
 */
public final class BoxHedge {
    public static final int NONE = -1, BAD = -2, STATE = -3, FULL = -4;
    public static final long NO = Long.MIN_VALUE;

    private static final int NEVER = -5;
    private static final int FAULTY = -10;
    private static final int NOTHING = -11, CAST = -12, PLACE = -13, SIZE = -14;

    private static final int PLANT = 0, PRIVET = 1, YEW = 2, CLIPPED = 3, PEACOCK = 4, FROSTY = 5, TOLD = 6;
    private static final int KINDS = 7;
    /** The kind above each kind; -1 above the first of all. */
    private static final int[] ABOVE = {-1, PLANT, PLANT, PLANT, PRIVET, YEW, CLIPPED};

    private static final int MOST_PLANTS = 8, MOST_GARDENS = 6, MOST_CLAUSES = 10, LONGEST_TEXT = 100;
    private static final int TAPES = 6, LONGEST_TAPE = 60;
    private static final int PARTS = 4;
    private static final int WORDS = 10000;
    private static final int LATEST = 9999, LONGEST = 9999;

    private final Hedge hedge;
    private final Hedge picture;
    private boolean pictured;
    private final Garden[] gardens;
    private int gardenCount;
    private final Reader reader;
    private final Questions questions;
    private final Acts acts;
    private final Tape[] tapes;

    public BoxHedge() {
        hedge = new Hedge();
        picture = new Hedge();
        gardens = new Garden[MOST_GARDENS];
        for (int k = 0; k < MOST_GARDENS; k++) {
            gardens[k] = new Garden();
        }
        reader = new Reader();
        questions = new Questions(hedge);
        acts = new Acts();
        tapes = new Tape[TAPES];
        for (int k = 0; k < TAPES; k++) {
            tapes[k] = new Tape();
        }
    }

    // ---- plants, gardens

    public int plant(int kind, int v) {
        if (kind < 0 || kind >= KINDS) {
            return NONE;
        }
        if (v < 0 || v > 9) {
            return BAD;
        }
        return hedge.add(kind, v);
    }

    public int of(int plant, int what) {
        if (!hedge.has(plant)) {
            return NONE;
        }
        switch (what) {
            case 0:
                return hedge.kinds[plant];
            case 1:
                return hedge.values[plant];
            case 2:
                return hedge.touches[plant];
            case 3:
                return hedge.isDead(plant) ? 1 : 0;
            case 4:
                return hedge.paceOf(plant);
            case 5:
                return hedge.takesOf(plant);
            default:
                return NONE;
        }
    }

    public int says(int plant, int word) {
        if (!hedge.has(plant)) {
            return NONE;
        }
        if (!isWord(word)) {
            return BAD;
        }
        return hedge.passedOn(plant, word);
    }

    public int touch(int plant, int other, boolean is) {
        if (!hedge.has(plant) || !hedge.has(other)) {
            return NONE;
        }
        if (plant == other) {
            return BAD;
        }
        int before = hedge.touches[plant];
        hedge.touches[plant] = with(before, other, is);
        return holds(before, other) ? 1 : 0;
    }

    public int kill(int plant, boolean is) {
        if (!hedge.has(plant)) {
            return NONE;
        }
        int before = hedge.dead;
        hedge.dead = with(before, plant, is);
        return holds(before, plant) ? 1 : 0;
    }

    public int row(int plant, int part, int n) {
        if (!hedge.has(plant) || part < 0 || part >= PARTS) {
            return NONE;
        }
        if (n < 0 || n > 9) {
            return BAD;
        }
        if (hedge.kinds[plant] != TOLD) {
            return STATE;
        }
        int place = plant * PARTS + part;
        int before = hedge.rows[place];
        hedge.rows[place] = n;
        return before;
    }

    public int feed(int sign) {
        if (sign < 0 || sign > 127) {
            return BAD;
        }
        return reader.add(sign);
    }

    public int garden() {
        if (gardenCount >= MOST_GARDENS) {
            return FULL;
        }
        int fault = reader.readInto(gardens[gardenCount]);
        if (fault >= 0) {
            return FAULTY - fault;
        }
        hedge.garden = gardens[gardenCount];
        gardenCount++;
        return gardenCount - 1;
    }

    public int told(int what) {
        switch (what) {
            case 0:
                return hedge.hour;
            case 1:
                return hedge.frost();
            case 2:
                return hedge.lose();
            case 3:
                return hedge.dead;
            default:
                return NONE;
        }
    }

    public int pass(int n) {
        if (n < 0 || n > 99) {
            return BAD;
        }
        if (hedge.hour + n > LATEST) {
            return STATE;
        }
        hedge.hour += n;
        return hedge.hour;
    }

    // ---- what is heard

    public int heard(int one, int word, int other, int what) {
        if (!hedge.has(one) || !hedge.has(other) || what < 0 || what > 2) {
            return NONE;
        }
        if (!isWord(word)) {
            return BAD;
        }
        return questions.hearingOf(one, word, other, what);
    }

    public int by(int one, int n) {
        if (!hedge.has(one)) {
            return NONE;
        }
        if (n < 0 || n > LONGEST) {
            return BAD;
        }
        return questions.hearersWithin(one, n);
    }

    public int right(int one, int word) {
        if (!hedge.has(one)) {
            return NONE;
        }
        if (!isWord(word)) {
            return BAD;
        }
        return questions.hearersOfJust(one, word);
    }

    public int last(int one) {
        if (!hedge.has(one)) {
            return NONE;
        }
        return questions.latest(one);
    }

    // ---- cuts, rounds

    public int cut(int one, int other, int what) {
        if (!hedge.has(one) || !hedge.has(other) || what < 0 || what > 1) {
            return NONE;
        }
        if (one == other) {
            return BAD;
        }
        int which = questions.fewestBetween(one, other);
        return what == 1 || which == NEVER ? which : Integer.bitCount(which);
    }

    public int needed(int one, int other) {
        if (!hedge.has(one) || !hedge.has(other)) {
            return NONE;
        }
        if (one == other) {
            return BAD;
        }
        return questions.eachNeededBetween(one, other);
    }

    public int round(int one, int word, int what) {
        if (!hedge.has(one) || what < 0 || what > 1) {
            return NONE;
        }
        if (!isWord(word)) {
            return BAD;
        }
        return questions.comingBack(one, word, what);
    }

    // ---- meeting, joining, listening

    public int meet(int one, int other) {
        if (!hedge.has(one) || !hedge.has(other)) {
            return NONE;
        }
        if (one == other) {
            return BAD;
        }
        return questions.hearersOfTheFirst(one, other);
    }

    public int join(int one, int other, int what) {
        if (!hedge.has(one) || !hedge.has(other) || what < 0 || what > 1) {
            return NONE;
        }
        if (one == other) {
            return BAD;
        }
        int best = questions.soonestTouch(one, other);
        if (best == NEVER) {
            return NEVER;
        }
        return what == 0 ? best % 100 : best / 100;
    }

    public int listen(int word) {
        if (!isWord(word)) {
            return BAD;
        }
        return questions.bestListener(word);
    }

    // ---- seen, odds

    public int see(int plant, int word, int hours) {
        if (plant == -1) {
            return hedge.seen.empty();
        }
        if (!hedge.has(plant)) {
            return NONE;
        }
        if (!isWord(word) || hours < 0 || hours > LONGEST) {
            return BAD;
        }
        return hedge.seen.add(plant, word, hours);
    }

    public int who(int what) {
        if (what < 0 || what > 1) {
            return NONE;
        }
        return questions.waysToHaveSaid(what == 1);
    }

    public long odds(int one, int other, int part) {
        if (!hedge.has(one) || !hedge.has(other) || one == other || part < 0 || part > 1) {
            return NO;
        }
        return questions.oddsBetween(one, other, part);
    }

    public long mean(int one, int part) {
        if (!hedge.has(one) || part < 0 || part > 1) {
            return NO;
        }
        return questions.meanHours(one, part);
    }

    // ---- plans, books

    public int plan(int what, int plant) {
        if (what == -1) {
            return hedge.plan.empty();
        }
        if (what < 0 || what > 2 || what != 2 && !hedge.has(plant)) {
            return NONE;
        }
        return hedge.plan.add(what, plant, 0);
    }

    public int planned(int one, int other) {
        if (!hedge.has(one) || !hedge.has(other)) {
            return NONE;
        }
        return questions.hoursAfterThePlan(one, other);
    }

    public int book(int one, int other, int hours) {
        if (one == -1) {
            return hedge.book.empty();
        }
        if (!hedge.has(one) || !hedge.has(other)) {
            return NONE;
        }
        if (hours < 0 || hours > LONGEST) {
            return BAD;
        }
        return hedge.book.add(one, other, hours);
    }

    public int looked() {
        return questions.firstWrongInTheBook();
    }

    // ---- judging, the image, acts, tapes

    public int judge(int tape, int i) {
        if (!isTape(tape)) {
            return NONE;
        }
        Tape row = tapes[tape];
        if (row.sort != Tape.NO_ROW && row.sort != Tape.BOOLEANS) {
            return CAST;
        }
        return hedge.judged(row, i);
    }

    public int image() {
        picture.become(hedge);
        pictured = true;
        return hedge.size;
    }

    public int undo() {
        if (!pictured) {
            return STATE;
        }
        hedge.become(picture);
        return hedge.size;
    }

    public int act(int plant, int act, int x) {
        acts.forget();
        if (!hedge.has(plant) || act < 0 || act >= Acts.EACH) {
            return 0;
        }
        return acts.perform(hedge, plant, act, x);
    }

    public int trace(int i) {
        if (i < 0 || i >= acts.ran || i >= acts.kept.length) {
            return NONE;
        }
        return acts.kept[i];
    }

    public int taken(int plant, int k) {
        if (k < 0 || k >= KINDS) {
            return BAD;
        }
        if (!hedge.has(plant)) {
            return NOTHING;
        }
        int kind = hedge.kinds[plant];
        return isUnder(kind, k) ? kind : CAST;
    }

    public int count(int what) {
        switch (what) {
            case 0:
                return hedge.size;
            case 1:
                return gardenCount;
            case 2:
                return hedge.seen.size;
            case 3:
                return hedge.plan.size;
            case 4:
                return hedge.book.size;
            case 5:
                return reader.length;
            case 6:
                return acts.ran;
            default:
                return BAD;
        }
    }

    public int tape(int tape, int sort, int n) {
        if (!isTape(tape)) {
            return NONE;
        }
        if (sort == Tape.NO_ROW) {
            return tapes[tape].become(Tape.NO_ROW, 0);
        }
        if (sort < 0 || sort > Tape.BOOLEANS || n > LONGEST_TAPE) {
            return BAD;
        }
        return n < 0 ? SIZE : tapes[tape].become(sort, n);
    }

    public int item(int tape, int i, long v) {
        if (!isTape(tape)) {
            return NONE;
        }
        Tape row = tapes[tape];
        if (row.sort == Tape.NO_ROW) {
            return NOTHING;
        }
        if (i < 0 || i >= row.length) {
            return PLACE;
        }
        row.items[i] = row.fitted(v);
        return 1;
    }

    public long read(int tape, int i) {
        if (!isTape(tape) || i < 0 || i >= tapes[tape].length) {
            return NO;
        }
        return tapes[tape].items[i];
    }

    public int shift(int tape, int i, int other, int j, int n) {
        if (!isTape(tape) || !isTape(other)) {
            return NONE;
        }
        Tape from = tapes[tape];
        Tape to = tapes[other];
        if (from.sort == Tape.NO_ROW || to.sort == Tape.NO_ROW) {
            return NOTHING;
        }
        if (from.sort != to.sort) {
            return CAST;
        }
        if (!from.spans(i, n) || !to.spans(j, n)) {
            return PLACE;
        }
        System.arraycopy(from.items, i, to.items, j, n);
        return n;
    }

    // ---- what many calls look at

    private static boolean isWord(int word) {
        return word >= 0 && word < WORDS;
    }

    private static boolean isTape(int tape) {
        return tape >= 0 && tape < TAPES;
    }

    private static boolean isUnder(int kind, int k) {
        int at = kind;
        for (int step = 0; step < KINDS && at > PLANT && at != k; step++) {
            at = ABOVE[at];
        }
        return at == k;
    }

    private static int bit(int plant) {
        return 1 << plant;
    }

    private static boolean holds(int bits, int plant) {
        return (bits & bit(plant)) != 0;
    }

    private static int with(int bits, int plant, boolean is) {
        return is ? bits | bit(plant) : bits & ~bit(plant);
    }

    /** The plants, and all else that an image keeps. */
    private static final class Hedge {
        private static final int PLAIN_PACE = 3, PLAIN_FROST = 20, PLAIN_LOSE = 2;

        int size;
        final int[] kinds = new int[MOST_PLANTS];
        final int[] values = new int[MOST_PLANTS];
        final int[] touches = new int[MOST_PLANTS];
        final int[] rows = new int[MOST_PLANTS * PARTS];
        int dead;
        int hour;
        /** The garden that holds; null without one. */
        Garden garden;
        final Rows seen = new Rows(5);
        final Rows plan = new Rows(8);
        final Rows book = new Rows(8);
        /** What the letters of a garden's tests stand for, of the plant that is looked at. */
        private final int[] view = new int[Garden.LETTERS.length()];

        void become(Hedge other) {
            size = other.size;
            System.arraycopy(other.kinds, 0, kinds, 0, MOST_PLANTS);
            System.arraycopy(other.values, 0, values, 0, MOST_PLANTS);
            System.arraycopy(other.touches, 0, touches, 0, MOST_PLANTS);
            System.arraycopy(other.rows, 0, rows, 0, rows.length);
            dead = other.dead;
            hour = other.hour;
            garden = other.garden;
            seen.become(other.seen);
            plan.become(other.plan);
            book.become(other.book);
        }

        /** Places behind the last plant are 0 always: they are so at first, and whole rows are copied. */
        int add(int kind, int v) {
            if (size >= MOST_PLANTS) {
                return FULL;
            }
            int plant = size;
            kinds[plant] = kind;
            values[plant] = v;
            size++;
            return plant;
        }

        boolean has(int plant) {
            return plant >= 0 && plant < size;
        }

        boolean isDead(int plant) {
            return holds(dead, plant);
        }

        int frost() {
            return garden == null || garden.frost < 0 ? PLAIN_FROST : garden.frost;
        }

        int lose() {
            return garden == null || garden.lose < 0 ? PLAIN_LOSE : Math.max(1, garden.lose);
        }

        int paceOf(int plant) {
            if (garden == null) {
                return PLAIN_PACE;
            }
            view[0] = plant;
            view[1] = kinds[plant];
            view[2] = values[plant];
            view[3] = Integer.bitCount(touches[plant]);
            view[4] = hour % 24;
            view[5] = Math.min(99, hour / 24);
            return Math.max(1, PLAIN_PACE + garden.slowness(view));
        }

        int takesOf(int plant) {
            int pace = paceOf(plant);
            switch (kinds[plant]) {
                case YEW:
                    return 2 * pace;
                case PEACOCK:
                    return Math.max(1, pace - 1);
                case FROSTY:
                    return 2 * pace + (hour % 24 < 6 ? frost() : 0);
                case TOLD:
                    return pace + rows[plant * PARTS + hour % PARTS];
                default:
                    return pace;
            }
        }

        /** What a plant says when it hears a word. */
        int passedOn(int plant, int word) {
            int v = values[plant];
            switch (kinds[plant]) {
                case PRIVET:
                    return (word + v) % WORDS;
                case PEACOCK:
                    return 2 * (word + v) % WORDS;
                case CLIPPED:
                    return clipped(word);
                case TOLD:
                    return (clipped(word) + v) % WORDS;
                default:
                    return word;
            }
        }

        private int clipped(int word) {
            int by = lose();
            return by < 1 ? word : word / by;
        }

        /** Without plants there is nothing to look at, so that the row does not matter. */
        int judged(Tape row, int place) {
            int items = size * size;
            for (int k = 0; k < items; k++) {
                if (place < 0 || place >= row.length - k) {
                    return 100 + k;
                }
                int one = k / size;
                int other = k % size;
                if (holds(touches[one], other) != (row.items[place + k] != 0)) {
                    return 10 * one + other;
                }
            }
            return NEVER;
        }
    }

    /** Rows told by hand, of three numbers each, up to a limit. */
    private static final class Rows {
        private static final int WIDTH = 3;

        int size;
        private final int limit;
        private final int[] cells;

        Rows(int limit) {
            this.limit = Math.max(0, limit);
            cells = new int[this.limit * WIDTH];
        }

        void become(Rows other) {
            size = Math.min(other.size, limit);
            System.arraycopy(other.cells, 0, cells, 0, Math.min(cells.length, other.cells.length));
        }

        int add(int first, int second, int third) {
            if (size >= limit) {
                return FULL;
            }
            int place = size * WIDTH;
            cells[place] = first;
            cells[place + 1] = second;
            cells[place + 2] = third;
            size++;
            return size;
        }

        int empty() {
            size = 0;
            return size;
        }

        int cell(int number, int column) {
            return cells[number * WIDTH + column];
        }
    }

    /** The clauses of a text that was read; the tests of each stand in code, operators behind their parts. */
    private static final class Garden {
        static final int SLOW = 0, QUICK = 1, FROST = 2, LOSE = 3;
        static final int NOT = -1, AND = -2, OR = -3;
        static final String LETTERS = "pkvthd";
        static final String SIGNS = "<=>";
        private static final int SIGNS_MANY = 3, NUMBERS = 100;

        int frost;
        int lose;
        private int clauses;
        private final int[] words = new int[MOST_CLAUSES];
        private final int[] numbers = new int[MOST_CLAUSES];
        private final int[] ends = new int[MOST_CLAUSES];
        private int used;
        private final int[] code = new int[LONGEST_TEXT];

        void clear() {
            frost = -1;
            lose = -1;
            clauses = 0;
            used = 0;
        }

        /** What is put into the code from here on belongs to this clause. */
        void begin(int word, int n) {
            if (clauses >= MOST_CLAUSES) {
                return;
            }
            words[clauses] = word;
            numbers[clauses] = n;
            ends[clauses] = used;
            clauses++;
            if (word == FROST) {
                frost = n;
            } else if (word == LOSE) {
                lose = n;
            }
        }

        void put(int step) {
            if (used >= LONGEST_TEXT || clauses < 1) {
                return;
            }
            code[used] = step;
            used++;
            ends[clauses - 1] = used;
        }

        static int test(int letter, int sign, int number) {
            return (letter * SIGNS_MANY + sign) * NUMBERS + number;
        }

        /** All slow whose tests hold, less all quick. */
        int slowness(int[] view) {
            int sum = 0;
            int start = 0;
            for (int k = 0; k < clauses; k++) {
                if (words[k] == SLOW && stands(view, start, ends[k])) {
                    sum += numbers[k];
                } else if (words[k] == QUICK && stands(view, start, ends[k])) {
                    sum -= numbers[k];
                }
                start = ends[k];
            }
            return sum;
        }

        /**
         * The bits of the stack are what holds so far: of each open (, one for its | and one for its &, so a few.
         * What is found is told as the place of its sign among the signs: less, equal, more.
         */
        private boolean stands(int[] view, int start, int end) {
            int stack = 0;
            for (int k = start; k < end; k++) {
                int step = code[k];
                if (step == NOT) {
                    stack ^= 1;
                } else if (step == AND) {
                    stack = (stack >> 1) & (stack | ~1);
                } else if (step == OR) {
                    stack = (stack >> 1) | (stack & 1);
                } else {
                    int letter = step / (SIGNS_MANY * NUMBERS);
                    int sign = step / NUMBERS % SIGNS_MANY;
                    int number = step % NUMBERS;
                    int found = view[letter] < number ? 0 : view[letter] == number ? 1 : 2;
                    stack = stack << 1 | (found == sign ? 1 : 0);
                }
            }
            return (stack & 1) == 1;
        }
    }

    /**
     * The text, and how it is read. Each function answers whether a garden can go on so; where it can't, it leaves
     * the place at the first byte that is wrong, so that the place is the fault when all of them have given up.
     */
    private static final class Reader {
        private static final int DEEPEST = 4;
        private static final String FIRST_LETTERS = "sqfl";

        int length;
        private final int[] text = new int[LONGEST_TEXT];
        private int at;
        private Garden into;

        int add(int sign) {
            if (length >= LONGEST_TEXT) {
                return FULL;
            }
            text[length] = sign;
            length++;
            return length;
        }

        /** The fault, or -1; the text is empty then. */
        int readInto(Garden garden) {
            at = 0;
            into = garden;
            into.clear();
            boolean fine = isClause();
            for (int k = 1; k < MOST_CLAUSES && fine && at < length; k++) {
                fine = skips(';') && isClause();
            }
            boolean whole = fine && at >= length;
            length = 0;
            return whole ? -1 : at;
        }

        private boolean isClause() {
            int word = FIRST_LETTERS.indexOf(here());
            if (word < 0 || !skipsAll(spelled(word)) || !skips(' ')) {
                return false;
            }
            int n = number();
            if (n < 0) {
                return false;
            }
            into.begin(word, n);
            if (word == Garden.SLOW || word == Garden.QUICK) {
                return skips(' ') && isEither(0);
            }
            return true;
        }

        private static String spelled(int word) {
            switch (word) {
                case Garden.SLOW:
                    return "slow";
                case Garden.QUICK:
                    return "quick";
                case Garden.FROST:
                    return "frost";
                default:
                    return "lose";
            }
        }

        private boolean isEither(int depth) {
            for (int k = 0; k < LONGEST_TEXT; k++) {
                if (!isBoth(depth)) {
                    return false;
                }
                if (k > 0) {
                    into.put(Garden.OR);
                }
                if (!skips('|')) {
                    return true;
                }
            }
            return false;
        }

        private boolean isBoth(int depth) {
            for (int k = 0; k < LONGEST_TEXT; k++) {
                if (!isPart(depth)) {
                    return false;
                }
                if (k > 0) {
                    into.put(Garden.AND);
                }
                if (!skips('&')) {
                    return true;
                }
            }
            return false;
        }

        private boolean isPart(int depth) {
            boolean not = here() == '!';
            if (!not && here() != '(') {
                return isTest();
            }
            if (depth >= DEEPEST) {
                return false;
            }
            at++;
            if (!not) {
                return isEither(depth + 1) && skips(')');
            }
            boolean fine = isPart(depth + 1);
            into.put(Garden.NOT);
            return fine;
        }

        private boolean isTest() {
            int letter = Garden.LETTERS.indexOf(here());
            if (letter < 0) {
                return false;
            }
            at++;
            int sign = Garden.SIGNS.indexOf(here());
            if (sign < 0) {
                return false;
            }
            at++;
            int number = number();
            if (number < 0) {
                return false;
            }
            into.put(Garden.test(letter, sign, number));
            return true;
        }

        /** One or two digits; -1 if there is none. */
        private int number() {
            int n = -1;
            for (int k = 0; k < 2 && at < length && text[at] >= '0' && text[at] <= '9'; k++) {
                int digit = text[at] - '0';
                n = n < 0 ? digit : 10 * n + digit;
                at++;
            }
            return n;
        }

        private boolean skipsAll(String signs) {
            for (int k = 0; k < signs.length(); k++) {
                if (!skips(signs.charAt(k))) {
                    return false;
                }
            }
            return true;
        }

        private boolean skips(char sign) {
            if (here() != sign) {
                return false;
            }
            at++;
            return true;
        }

        /** At the text's end 0, which no garden has anywhere. */
        private char here() {
            return at < length ? (char) text[at] : 0;
        }
    }

    /** What becomes of something said: who hears it, in what order, behind how many hours, from whom, and as what. */
    private static final class Hearing {
        final int[] takes = new int[MOST_PLANTS];
        final int[] hours = new int[MOST_PLANTS];
        final int[] from = new int[MOST_PLANTS];
        final int[] order = new int[MOST_PLANTS];
        int hearers;
        private final int[] words = new int[MOST_PLANTS];

        /** How long each plant takes does not depend on what is said, so it is worked out once a question. */
        void measure(Hedge hedge) {
            for (int plant = 0; plant < hedge.size; plant++) {
                takes[plant] = hedge.takesOf(plant);
            }
        }

        /** Something is said to all of the starts (bits) at once. */
        void spread(Hedge hedge, int starts) {
            for (int plant = 0; plant < hedge.size; plant++) {
                hours[plant] = holds(starts, plant) && !hedge.isDead(plant) ? 0 : NEVER;
                from[plant] = NEVER;
            }
            int done = 0;
            hearers = 0;
            for (int k = 0; k < hedge.size; k++) {
                int next = soonest(hedge.size, done);
                if (next == NEVER) {
                    return;
                }
                order[hearers] = next;
                hearers++;
                done |= bit(next);
                passOn(hedge, next);
            }
        }

        private int soonest(int size, int done) {
            int best = NEVER;
            for (int plant = 0; plant < size; plant++) {
                if (hours[plant] != NEVER && !holds(done, plant)
                        && (best == NEVER || hours[plant] < hours[best])) {
                    best = plant;
                }
            }
            return best;
        }

        /** All takes are 1 at least: whoever has heard already heard sooner, and is left as it is. */
        private void passOn(Hedge hedge, int plant) {
            int then = hours[plant] + takes[plant];
            int reached = hedge.touches[plant] & ~hedge.dead;
            for (int other = 0; other < hedge.size; other++) {
                if (!holds(reached, other)) {
                    continue;
                }
                boolean sooner = hours[other] == NEVER || then < hours[other];
                if (sooner || then == hours[other] && plant < from[other]) {
                    hours[other] = then;
                    from[other] = plant;
                }
            }
        }

        /** What each hears, when it has spread, if it is this word that is said. */
        void speak(Hedge hedge, int word) {
            for (int k = 0; k < hearers; k++) {
                int plant = order[k];
                int teller = from[plant];
                words[plant] = teller < 0 ? word : hedge.passedOn(teller, words[teller]);
            }
        }

        int wordAt(int plant) {
            return hours[plant] == NEVER ? NEVER : words[plant];
        }
    }

    /** What is asked of the hedge as it is now; the trial is a copy to change where a question says "if". */
    private static final class Questions {
        private static final int MOST_CUT = 3;
        private static final int GUESSED_WORDS = 100;
        private static final int DIES = 0, LIVES = 1;
        private static final int PLANNED_HOURS = 6;

        private final Hedge hedge;
        private final Hedge trial = new Hedge();
        private final Hearing hearing = new Hearing();
        private final int[] hearings = new int[MOST_PLANTS * MOST_PLANTS];

        Questions(Hedge hedge) {
            this.hedge = hedge;
        }

        private void say(int one, int word) {
            hearing.measure(hedge);
            hearing.spread(hedge, bit(one));
            hearing.speak(hedge, word);
        }

        int hearingOf(int one, int word, int other, int what) {
            say(one, word);
            switch (what) {
                case 0:
                    return hearing.hours[other];
                case 1:
                    return hearing.wordAt(other);
                default:
                    return hearing.from[other];
            }
        }

        int hearersWithin(int one, int n) {
            say(one, 0);
            int bits = 0;
            for (int k = 0; k < hearing.hearers; k++) {
                int plant = hearing.order[k];
                if (hearing.hours[plant] <= n) {
                    bits |= bit(plant);
                }
            }
            return bits;
        }

        int hearersOfJust(int one, int word) {
            say(one, word);
            int bits = 0;
            for (int plant = 0; plant < hedge.size; plant++) {
                if (plant != one && hearing.wordAt(plant) == word) {
                    bits |= bit(plant);
                }
            }
            return bits;
        }

        int latest(int one) {
            say(one, 0);
            return hearing.hearers < 1 ? NEVER : hearing.hours[hearing.order[hearing.hearers - 1]];
        }

        /** Whether the second hears what is said to the first, if these others were dead, too. */
        private boolean reaches(int one, int other, int alsoDead) {
            int alive = ~(hedge.dead | alsoDead);
            int reached = bit(one) & alive;
            for (int k = 1; k < hedge.size; k++) {
                for (int plant = 0; plant < hedge.size; plant++) {
                    if (holds(reached, plant)) {
                        reached |= hedge.touches[plant] & alive;
                    }
                }
            }
            return holds(reached, other);
        }

        int fewestBetween(int one, int other) {
            int ends = bit(one) | bit(other);
            int all = bit(hedge.size);
            for (int many = 0; many <= MOST_CUT; many++) {
                for (int which = 0; which < all; which++) {
                    if ((which & ends) == 0 && Integer.bitCount(which) == many && !reaches(one, other, which)) {
                        return which;
                    }
                }
            }
            return NEVER;
        }

        int eachNeededBetween(int one, int other) {
            if (!reaches(one, other, 0)) {
                return 0;
            }
            int bits = 0;
            for (int plant = 0; plant < hedge.size; plant++) {
                if (plant != one && plant != other && !reaches(one, other, bit(plant))) {
                    bits |= bit(plant);
                }
            }
            return bits;
        }

        int comingBack(int one, int word, int what) {
            say(one, word);
            int teller = NEVER;
            int soonest = NEVER;
            for (int plant = 0; plant < hedge.size; plant++) {
                if (hearing.hours[plant] == NEVER || !holds(hedge.touches[plant], one)) {
                    continue;
                }
                int then = hearing.hours[plant] + hearing.takes[plant];
                if (teller == NEVER || then < soonest) {
                    teller = plant;
                    soonest = then;
                }
            }
            if (teller == NEVER || what == 0) {
                return soonest;
            }
            return hedge.passedOn(teller, hearing.wordAt(teller));
        }

        int hearersOfTheFirst(int one, int other) {
            hearing.measure(hedge);
            hearing.spread(hedge, bit(one) | bit(other));
            int bits = 0;
            for (int k = 0; k < hearing.hearers; k++) {
                int plant = hearing.order[k];
                int teller = hearing.from[plant];
                if (plant == one || teller >= 0 && holds(bits, teller)) {
                    bits |= bit(plant);
                }
            }
            return bits;
        }

        /** 100 times the hours, and the touch as 10 times the one and the other: so the least is the soonest, first. */
        int soonestTouch(int one, int other) {
            say(one, 0);
            int now = hearing.hours[other];
            int best = NEVER;
            trial.become(hedge);
            for (int plant = 0; plant < hedge.size; plant++) {
                for (int more = 0; more < hedge.size; more++) {
                    if (plant == more || holds(hedge.touches[plant], more)) {
                        continue;
                    }
                    int hours = hoursWithTouch(one, other, plant, more);
                    int answer = hours * 100 + 10 * plant + more;
                    if (hours != NEVER && (now == NEVER || hours < now) && (best == NEVER || answer < best)) {
                        best = answer;
                    }
                }
            }
            return best;
        }

        /** A touch more may change the pace of the plant that touches, too. */
        private int hoursWithTouch(int one, int other, int plant, int more) {
            int takesNow = hearing.takes[plant];
            trial.touches[plant] = hedge.touches[plant] | bit(more);
            hearing.takes[plant] = trial.takesOf(plant);
            hearing.spread(trial, bit(one));
            trial.touches[plant] = hedge.touches[plant];
            hearing.takes[plant] = takesNow;
            return hearing.hours[other];
        }

        int bestListener(int word) {
            hearing.measure(hedge);
            for (int one = 0; one < hedge.size; one++) {
                hearing.spread(hedge, bit(one));
                hearing.speak(hedge, word);
                for (int plant = 0; plant < hedge.size; plant++) {
                    hearings[plant * MOST_PLANTS + one] = hearing.hours[plant] == NEVER
                            ? NEVER : hearing.hours[plant] * WORDS + hearing.wordAt(plant);
                }
            }
            int best = NEVER;
            int most = 0;
            for (int plant = 0; plant < hedge.size; plant++) {
                int unlike = unlikeHearings(plant);
                if (unlike > most) {
                    best = plant;
                    most = unlike;
                }
            }
            return best;
        }

        private int unlikeHearings(int plant) {
            int start = plant * MOST_PLANTS;
            int unlike = 0;
            for (int one = 0; one < hedge.size; one++) {
                boolean known = false;
                for (int before = 0; before < one; before++) {
                    known = known || hearings[start + before] == hearings[start + one];
                }
                unlike += known ? 0 : 1;
            }
            return unlike;
        }

        int waysToHaveSaid(boolean first) {
            int ways = 0;
            hearing.measure(hedge);
            for (int one = 0; one < hedge.size; one++) {
                hearing.spread(hedge, bit(one));
                if (!isSeenInTime()) {
                    continue;
                }
                for (int word = 0; word < GUESSED_WORDS; word++) {
                    hearing.speak(hedge, word);
                    if (!isSeenAsWords()) {
                        continue;
                    }
                    if (first) {
                        return GUESSED_WORDS * one + word;
                    }
                    ways++;
                }
            }
            return first ? NEVER : ways;
        }

        private boolean isSeenInTime() {
            for (int k = 0; k < hedge.seen.size; k++) {
                if (hearing.hours[hedge.seen.cell(k, 0)] != hedge.seen.cell(k, 2)) {
                    return false;
                }
            }
            return true;
        }

        private boolean isSeenAsWords() {
            for (int k = 0; k < hedge.seen.size; k++) {
                if (hearing.wordAt(hedge.seen.cell(k, 0)) != hedge.seen.cell(k, 1)) {
                    return false;
                }
            }
            return true;
        }

        long oddsBetween(int one, int other, int part) {
            int all = 0;
            int still = 0;
            for (int plant = 0; plant < hedge.size; plant++) {
                if (plant == one || plant == other || hedge.isDead(plant)) {
                    continue;
                }
                all++;
                still += reaches(one, other, bit(plant)) ? 1 : 0;
            }
            return lowest(still, all, part);
        }

        long meanHours(int one, int part) {
            say(one, 0);
            int sum = 0;
            for (int k = 0; k < hearing.hearers; k++) {
                sum += hearing.hours[hearing.order[k]];
            }
            return lowest(sum, hearing.hearers, part);
        }

        private static long lowest(int above, int below, int part) {
            for (int divisor = below; divisor > 0; divisor--) {
                if (above % divisor == 0 && below % divisor == 0) {
                    return (part == 0 ? above : below) / divisor;
                }
            }
            return NO;
        }

        int hoursAfterThePlan(int one, int other) {
            trial.become(hedge);
            for (int k = 0; k < hedge.plan.size; k++) {
                int what = hedge.plan.cell(k, 0);
                if (what == DIES || what == LIVES) {
                    trial.dead = with(trial.dead, hedge.plan.cell(k, 1), what == DIES);
                } else {
                    trial.hour += PLANNED_HOURS;
                }
            }
            hearing.measure(trial);
            hearing.spread(trial, bit(one));
            return hearing.hours[other];
        }

        int firstWrongInTheBook() {
            hearing.measure(hedge);
            for (int k = 0; k < hedge.book.size; k++) {
                hearing.spread(hedge, bit(hedge.book.cell(k, 0)));
                if (hearing.hours[hedge.book.cell(k, 1)] != hedge.book.cell(k, 2)) {
                    return k;
                }
            }
            return NEVER;
        }
    }

    /** The bodies that a plant's acts run, as its kind has them, and the trace of the latest act. */
    private static final class Acts {
        static final int HEARS = 0, SAYS = 1, TELLS = 2, EACH = 3;
        private static final int DEEPEST = 40;
        /** Of each kind its hears, says and tells; 0 where it has none of its own. */
        private static final int[] BODIES = {
            10, 11, 12,
            0, 20, 0,
            30, 0, 0,
            0, 0, 40,
            50, 51, 0,
            0, 0, 60,
            71, 70, 0,
        };

        final int[] kept = new int[20];
        int ran;
        private int kind;
        private int i;
        private int v;

        void forget() {
            ran = 0;
        }

        int perform(Hedge hedge, int plant, int act, int x) {
            kind = hedge.kinds[plant];
            i = plant;
            v = hedge.values[plant];
            return run(act, kind, x, 0);
        }

        /** The body of the next kind that has one, from this kind on upwards. */
        private int run(int act, int from, int x, int depth) {
            int number = bodyOf(act, from);
            if (number == 0 || depth >= DEEPEST) {
                return 0;
            }
            begin(number);
            int next = depth + 1;
            switch (number) {
                case 10:
                    return x + i;
                case 11:
                    return run(HEARS, kind, x, next) - v;
                case 12:
                    return run(SAYS, kind, x, next) * 2;
                case 20:
                    return run(SAYS, ABOVE[PRIVET], x, next) ^ 6;
                case 30:
                    return run(HEARS, ABOVE[YEW], x * 3, next);
                case 40:
                    return run(TELLS, ABOVE[CLIPPED], x, next) + run(SAYS, kind, 1, next);
                case 50:
                    return -run(HEARS, ABOVE[PEACOCK], x, next);
                case 51:
                    return run(SAYS, ABOVE[PEACOCK], x + 1, next);
                case 60:
                    return run(TELLS, ABOVE[FROSTY], x - i, next);
                case 70:
                    return run(SAYS, ABOVE[TOLD], x, next) + run(HEARS, ABOVE[TOLD], 2, next);
                case 71:
                    return run(HEARS, ABOVE[TOLD], x, next) ^ v;
                default:
                    return 0;
            }
        }

        private static int bodyOf(int act, int from) {
            int at = from;
            for (int step = 0; step < KINDS && at >= 0; step++) {
                if (BODIES[at * EACH + act] != 0) {
                    return BODIES[at * EACH + act];
                }
                at = ABOVE[at];
            }
            return 0;
        }

        private void begin(int number) {
            if (ran < kept.length) {
                kept[ran] = number;
            }
            ran++;
        }
    }

    /** Nothing, or a row of one sort; each item is kept as a long that the sort has room for. */
    private static final class Tape {
        static final int NO_ROW = -1, BYTES = 0, SHORTS = 1, INTS = 2, LONGS = 3, BOOLEANS = 4;

        int sort = NO_ROW;
        int length;
        final long[] items = new long[LONGEST_TAPE];

        int become(int newSort, int n) {
            sort = newSort;
            length = n;
            for (int k = 0; k < LONGEST_TAPE; k++) {
                items[k] = 0;
            }
            return 1;
        }

        long fitted(long v) {
            switch (sort) {
                case BYTES:
                    return (byte) v;
                case SHORTS:
                    return (short) v;
                case INTS:
                    return (int) v;
                case BOOLEANS:
                    return v != 0 ? 1 : 0;
                default:
                    return v;
            }
        }

        /** Told by subtraction, as a sum of two great numbers would wrap. */
        boolean spans(int from, int n) {
            return n >= 0 && from >= 0 && n <= length && from <= length - n;
        }
    }
}
