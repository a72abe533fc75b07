/**
 * The grammar of gardens as a machine that takes one byte after another and knows only what may come next: held
 * against the reader, which reads clause by clause.
 */
final class Grammar {
    private static final String[] WORDS = {"slow", "quick", "frost", "lose"};

    /** What was read of the word; what may come next: a letter of it, a part of a number, and so on. */
    private enum Next { WORD, BLANK, FIRST_DIGIT, MORE_DIGITS, PART, SIGN, TEST_FIRST, TEST_MORE, AFTER }

    private Next next = Next.WORD;
    private String word = "";
    private int clauses = 1;
    private int digits;
    /** All ( and ! that stand open, from the outermost on. */
    private final StringBuilder open = new StringBuilder();

    private Grammar() { }

    /** The place of the first byte with which no garden begins so, the end, or -1. */
    static int fault(String text) {
        Grammar g = new Grammar();
        for (int k = 0; k < text.length(); k++) {
            if (!g.takes(text.charAt(k))) {
                return k;
            }
        }
        return g.mayEnd() ? -1 : text.length();
    }

    private boolean hasTests() { return word.equals("slow") || word.equals("quick"); }

    private boolean mayEnd() {
        switch (next) {
            case MORE_DIGITS:
                return !hasTests();
            case TEST_MORE:
            case AFTER:
                return open.indexOf("(") < 0;
            default:
                return false;
        }
    }

    private boolean takes(char c) {
        switch (next) {
            case WORD:
                word += c;
                boolean begins = false;
                for (String w : WORDS) {
                    begins |= w.startsWith(word);
                    next = w.equals(word) ? Next.BLANK : next;
                }
                return begins;
            case BLANK:
                next = Next.FIRST_DIGIT;
                return c == ' ';
            case FIRST_DIGIT:
                next = Next.MORE_DIGITS;
                digits = 1;
                return Character.isDigit(c);
            case MORE_DIGITS:
                if (Character.isDigit(c)) {
                    return ++digits <= 2;
                }
                if (hasTests()) {
                    next = Next.PART;
                    return c == ' ';
                }
                return c == ';' && nextClause();
            case PART:
                if (c == '(' || c == '!') {
                    open.append(c);
                    return open.length() <= 4;
                }
                next = Next.SIGN;
                return "pkvthd".indexOf(c) >= 0;
            case SIGN:
                next = Next.TEST_FIRST;
                return "<=>".indexOf(c) >= 0;
            case TEST_FIRST:
                next = Next.TEST_MORE;
                return Character.isDigit(c);
            case TEST_MORE:
                next = Next.AFTER;
                return Character.isDigit(c) || after(c);
            default:
                return after(c);
        }
    }

    /** A part has ended: so have all ! right ahead of it. */
    private boolean after(char c) {
        endNots();
        next = Next.PART;
        if (c == '&' || c == '|') {
            return true;
        }
        if (c == ')' && open.length() > 0) {
            open.setLength(open.length() - 1);
            next = Next.AFTER;
            endNots();
            return true;
        }
        return c == ';' && open.length() == 0 && nextClause();
    }

    private void endNots() {
        while (open.length() > 0 && open.charAt(open.length() - 1) == '!') {
            open.setLength(open.length() - 1);
        }
    }

    private boolean nextClause() {
        next = Next.WORD;
        word = "";
        clauses++;
        return clauses <= 10;
    }
}
