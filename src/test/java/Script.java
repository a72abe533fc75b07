import java.lang.reflect.Method;
import java.util.ArrayList;
import java.util.HashMap;
import java.util.List;
import java.util.Map;
import java.util.Set;
import java.util.regex.Matcher;
import java.util.regex.Pattern;

/**
 * Runs of calls on a new object, told as text, each row a call and the answer that is due:
 * {@code plant(0, 9)=0 feed(65)*100=100 garden"lose 1"=0 touch(0, 0, true)=BAD}, where {@code *100} is a hundred calls, of
 * which the last answer is looked at, {@code "lose 1"} is fed ahead of the call, and {@code =?} is not looked at.
 *
 * "What is answered so changes nothing; what is asked changes nothing": each run is told a second time without the rows
 * that are refused or asked. The rows that are left must answer the same, and so must all that can be asked behind them.
 */
final class Script {
    private static final Pattern ROW = Pattern.compile("(\\w+)(?:\\(([^)]*)\\)|\"([^\"]*)\")(?:\\*(\\d+))?=(\\S+)");
    private static final Set<String> CHANGING = Set.of("plant", "touch", "kill", "row", "feed", "garden", "pass", "see", "plan",
        "book", "image", "undo", "act", "tape", "item", "shift");
    private static final Map<String, Object> NAMES = Map.ofEntries(Map.entry("NONE", -1), Map.entry("BAD", -2),
        Map.entry("STATE", -3), Map.entry("FULL", -4), Map.entry("NEVER", -5), Map.entry("NOTHING", -11),
        Map.entry("CAST", -12), Map.entry("PLACE", -13), Map.entry("SIZE", -14), Map.entry("NO", Long.MIN_VALUE),
        Map.entry("MIN", Integer.MIN_VALUE), Map.entry("MAX", Integer.MAX_VALUE), Map.entry("LEAST", Long.MIN_VALUE),
        Map.entry("MOST", Long.MAX_VALUE), Map.entry("true", true), Map.entry("false", false));
    private static final Map<String, Method> FACE = new HashMap<>();
    private static final int PROMISED = 512, PARTS = 5;

    static {
        for (Method method : BoxHedge.class.getDeclaredMethods()) {
            if (java.lang.reflect.Modifier.isPublic(method.getModifiers())) {
                FACE.put(method.getName(), method);
            }
        }
    }

    /** What is due is null where the answer is not looked at. */
    private record Row(String call, String name, Object[] args, int times, Long due) {
        boolean changes() {
            return CHANGING.contains(name) && !refused();
        }

        /** A fault of garden() is none, as it empties the text; an act answers what it likes. */
        private boolean refused() {
            return due != null && due < 0 && !name.equals("act") && (!name.equals("garden") || due == -4);
        }
    }

    private final BoxHedge x = new BoxHedge();
    private int calls;

    private Script() { }

    static void run(String title, String told) {
        List<Row> rows = rows(told);
        List<Row> left = new ArrayList<>();
        for (Row row : rows) {
            if (row.changes()) {
                left.add(row);
            }
        }
        new Script().play(title, rows, true);
        new Script().play(title + " (without what changes nothing)", left, true);
        for (int part = 0; part < PARTS; part++) {
            Script whole = new Script();
            Script less = new Script();
            whole.play(title, rows, false);
            less.play(title, left, false);
            List<String> all = whole.look(part);
            List<String> same = less.look(part);
            for (int k = 0; k < all.size(); k++) {
                if (!all.get(k).equals(same.get(k))) {
                    Due.wrong(title + ": something refused or asked changed what comes then: " + all.get(k) + ", not "
                        + same.get(k));
                }
            }
        }
    }

    private static List<Row> rows(String told) {
        List<Row> rows = new ArrayList<>();
        Matcher m = ROW.matcher(told);
        int end = 0;
        while (m.find()) {
            if (!told.substring(end, m.start()).isBlank()) {
                throw new IllegalArgumentException(told.substring(end, m.start()));
            }
            end = m.end();
            List<Object> args = new ArrayList<>();
            if (m.group(2) != null && !m.group(2).isBlank()) {
                for (String arg : m.group(2).split(",")) {
                    args.add(value(arg.strip()));
                }
            }
            for (int k = 0; m.group(3) != null && k < m.group(3).length(); k++) {
                rows.add(new Row("feed", "feed", new Object[] {(int) m.group(3).charAt(k)}, 1, null));
            }
            rows.add(new Row(m.group(), m.group(1), fitted(m.group(1), args),
                m.group(4) == null ? 1 : Integer.parseInt(m.group(4)), due(m.group(5))));
        }
        if (!told.substring(end).isBlank()) {
            throw new IllegalArgumentException(told.substring(end));
        }
        return rows;
    }

    private static Long due(String text) {
        return text.equals("?") ? null : (Long) ((Number) value(text)).longValue();
    }

    private static Object value(String text) {
        return NAMES.containsKey(text) ? NAMES.get(text) : (Object) Long.valueOf(text);
    }

    private static Object[] fitted(String name, List<Object> args) {
        Class<?>[] types = FACE.get(name).getParameterTypes();
        if (types.length != args.size()) {
            throw new IllegalArgumentException(name + args);
        }
        Object[] fitted = new Object[types.length];
        for (int k = 0; k < types.length; k++) {
            fitted[k] = types[k] == boolean.class ? args.get(k)
                : types[k] == long.class ? (Object) ((Number) args.get(k)).longValue()
                : (Object) Math.toIntExact(((Number) args.get(k)).longValue());
        }
        return fitted;
    }

    private void play(String title, List<Row> rows, boolean aloud) {
        for (Row row : rows) {
            String answer = "";
            for (int k = 0; k < row.times; k++) {
                answer = call(row.name, row.args);
            }
            if (aloud && row.due != null && !answer.equals("" + row.due)) {
                Due.wrong(title + ": " + row.call + " answered " + answer);
            }
        }
    }

    private String call(String name, Object... args) {
        calls++;
        if (calls > PROMISED) {
            throw new IllegalStateException("a run is too long");
        }
        try {
            return "" + ((Number) FACE.get(name).invoke(x, args)).longValue();
        } catch (ReflectiveOperationException e) {
            return "" + e.getCause();
        }
    }

    /** All that can be asked, in parts, as no object answers to more than 512 calls. */
    private List<String> look(int part) {
        List<String> found = new ArrayList<>();
        switch (part) {
            case 0:
                lookAtState(found);
                lookAtHearings(found);
                break;
            case 1:
            case 2:
                for (int tape = 3 * part - 3; tape < 3 * part; tape++) {
                    for (int i = 0; i < 60; i++) {
                        ask(found, "read", tape, i);
                    }
                }
                break;
            case 3:
                lookInside(found);
                break;
            default:
                ask(found, "undo");
                lookAtState(found);
                each(found, "planned", 8, 8);
                break;
        }
        return found;
    }

    private void lookAtState(List<String> found) {
        each(found, "count", 7);
        each(found, "told", 4);
        each(found, "of", 8, 6);
        each(found, "trace", 13);
        each(found, "who", 2);
        ask(found, "looked");
    }

    private void lookAtHearings(List<String> found) {
        for (int one = 0; one < 8; one++) {
            for (int other = 0; other < 8; other++) {
                ask(found, "heard", one, 7, other, 1);
                ask(found, "planned", one, other);
            }
        }
    }

    /** What shows by a change alone: the rows, the sort of each tape, the text, the limits. */
    private void lookInside(List<String> found) {
        for (int plant = 0; plant < 8; plant++) {
            for (int part = 0; part < PARTS; part++) {
                ask(found, "row", plant, part, 0);
            }
        }
        for (int tape = 0; tape < 6; tape++) {
            ask(found, "item", tape, 0, 0x80008081L);
            ask(found, "read", tape, 0);
        }
        ask(found, "garden");
        ask(found, "plant", 0, 0);
        ask(found, "see", 0, 0, 0);
        ask(found, "plan", 2, 0);
        ask(found, "book", 0, 0, 0);
    }

    private void each(List<String> found, String name, int many) {
        for (int k = 0; k < many; k++) {
            ask(found, name, k);
        }
    }

    private void each(List<String> found, String name, int many, int more) {
        for (int k = 0; k < many; k++) {
            for (int j = 0; j < more; j++) {
                ask(found, name, k, j);
            }
        }
    }

    private void ask(List<String> found, String name, Object... args) {
        found.add(name + List.of(args) + " = " + call(name, args));
    }
}
