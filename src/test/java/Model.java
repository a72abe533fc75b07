import java.lang.reflect.Array;
import java.util.ArrayList;
import java.util.Comparator;
import java.util.HashSet;
import java.util.List;
import java.util.PriorityQueue;
import java.util.Set;

/**
 * The document once more, told as directly as it can be and without a thought for speed, so that BoxHedge can be held
 * against it: what is said goes round as events, what "if" asks is done to a copy, kinds are Java classes, a garden's
 * text is read anew at each look, the host's refusals are what the host throws.
 */
public final class Model {
    static final int NONE = -1, BAD = -2, STATE = -3, FULL = -4, NEVER = -5;
    static final long NO = Long.MIN_VALUE;

    // ---- the kinds

    static class Plant {
        int i;
        int v;
        Set<Integer> touches = new HashSet<>();
        boolean dead;
        int[] row = new int[4];
        List<Integer> trace = new ArrayList<>();

        int kind() { return 0; }
        int takes(int pace, int hour, int frost) { return pace; }
        int says(int word, int lose) { return word; }

        int hears(int x) { trace.add(10); return x + i; }
        int says(int x) { trace.add(11); return hears(x) - v; }
        int tells(int x) { trace.add(12); return says(x) * 2; }
    }

    static class Privet extends Plant {
        @Override int kind() { return 1; }
        @Override int says(int word, int lose) { return (word + v) % 10000; }
        @Override int says(int x) { trace.add(20); return super.says(x) ^ 6; }
    }

    static class Yew extends Plant {
        @Override int kind() { return 2; }
        @Override int takes(int pace, int hour, int frost) { return 2 * pace; }
        @Override int hears(int x) { trace.add(30); return super.hears(x * 3); }
    }

    static class Clipped extends Plant {
        @Override int kind() { return 3; }
        @Override int says(int word, int lose) { return word / lose; }
        @Override int tells(int x) { trace.add(40); return super.tells(x) + says(1); }
    }

    static class Peacock extends Privet {
        @Override int kind() { return 4; }
        @Override int takes(int pace, int hour, int frost) { return pace == 1 ? 1 : pace - 1; }
        @Override int says(int word, int lose) { return super.says(word, lose) * 2 % 10000; }
        @Override int hears(int x) { trace.add(50); return -super.hears(x); }
        @Override int says(int x) { trace.add(51); return super.says(x + 1); }
    }

    static class Frosty extends Yew {
        @Override int kind() { return 5; }
        @Override int takes(int pace, int hour, int frost) {
            return super.takes(pace, hour, frost) + (hour % 24 < 6 ? frost : 0);
        }
        @Override int tells(int x) { trace.add(60); return super.tells(x - i); }
    }

    static class Told extends Clipped {
        @Override int kind() { return 6; }
        @Override int takes(int pace, int hour, int frost) { return super.takes(pace, hour, frost) + row[hour % 4]; }
        @Override int says(int word, int lose) { return (super.says(word, lose) + v) % 10000; }
        @Override int says(int x) { trace.add(70); return super.says(x) + super.hears(2); }
        @Override int hears(int x) { trace.add(71); return super.hears(x) ^ v; }
    }

    static Plant made(int kind) {
        return switch (kind) {
            case 0 -> new Plant();
            case 1 -> new Privet();
            case 2 -> new Yew();
            case 3 -> new Clipped();
            case 4 -> new Peacock();
            case 5 -> new Frosty();
            default -> new Told();
        };
    }

    // ---- all that an image keeps

    static final class World {
        List<Plant> plants = new ArrayList<>();
        int hour;
        List<int[]> seen = new ArrayList<>();
        List<int[]> plan = new ArrayList<>();
        List<int[]> book = new ArrayList<>();
        /** The text of the garden that holds, or null. */
        String garden;

        World copy() {
            World w = new World();
            for (Plant p : plants) {
                Plant q = made(p.kind());
                q.i = p.i;
                q.v = p.v;
                q.touches = new HashSet<>(p.touches);
                q.dead = p.dead;
                q.row = p.row.clone();
                w.plants.add(q);
            }
            w.hour = hour;
            w.seen.addAll(seen);
            w.plan.addAll(plan);
            w.book.addAll(book);
            w.garden = garden;
            return w;
        }

        int lastOf(String word, int without) {
            int n = without;
            if (garden != null) {
                for (String clause : garden.split(";")) {
                    String[] parts = clause.split(" ");
                    if (parts[0].equals(word)) {
                        n = Integer.parseInt(parts[1]);
                    }
                }
            }
            return n;
        }

        int frost() { return lastOf("frost", 20); }
        int lose() { return Math.max(1, lastOf("lose", 2)); }

        int pace(Plant p) {
            int pace = 3;
            if (garden != null) {
                for (String clause : garden.split(";")) {
                    String[] parts = clause.split(" ");
                    if (parts.length == 3 && either(parts[2], p)) {
                        pace += (parts[0].equals("slow") ? 1 : -1) * Integer.parseInt(parts[1]);
                    }
                }
            }
            return Math.max(1, pace);
        }

        int takes(Plant p) { return p.takes(pace(p), hour, frost()); }

        /** The places of a sign outside of all parentheses. */
        static List<String> parts(String e, char between) {
            List<String> found = new ArrayList<>();
            int open = 0;
            int start = 0;
            for (int k = 0; k < e.length(); k++) {
                char c = e.charAt(k);
                open += c == '(' ? 1 : c == ')' ? -1 : 0;
                if (c == between && open == 0) {
                    found.add(e.substring(start, k));
                    start = k + 1;
                }
            }
            found.add(e.substring(start));
            return found;
        }

        boolean either(String e, Plant p) {
            boolean any = false;
            for (String t : parts(e, '|')) {
                boolean all = true;
                for (String f : parts(t, '&')) {
                    all &= factor(f, p);
                }
                any |= all;
            }
            return any;
        }

        boolean factor(String f, Plant p) {
            if (f.startsWith("!")) {
                return !factor(f.substring(1), p);
            }
            if (f.startsWith("(")) {
                return either(f.substring(1, f.length() - 1), p);
            }
            int n = Integer.parseInt(f.substring(2));
            int found = switch (f.charAt(0)) {
                case 'p' -> p.i;
                case 'k' -> p.kind();
                case 'v' -> p.v;
                case 't' -> p.touches.size();
                case 'h' -> hour % 24;
                default -> Math.min(99, hour / 24);
            };
            return f.charAt(1) == '<' ? found < n : f.charAt(1) == '=' ? found == n : found > n;
        }

        // ---- what is said goes round

        /** Something that comes to a plant: of the first that came to it there is a row {hours, word, from, source}. */
        int[][] said(int word, int... ones) {
            int[][] hearing = new int[plants.size()][];
            PriorityQueue<int[]> coming = new PriorityQueue<>(
                Comparator.<int[]>comparingInt(e -> e[0]).thenComparingInt(e -> e[2]).thenComparingInt(e -> e[3]));
            for (int one : ones) {
                coming.add(new int[] {0, word, NEVER, one, one});
            }
            while (!coming.isEmpty()) {
                int[] e = coming.poll();
                Plant p = plants.get(e[4]);
                if (p.dead || hearing[p.i] != null) {
                    continue;
                }
                hearing[p.i] = e;
                for (int other : p.touches) {
                    coming.add(new int[] {e[0] + takes(p), p.says(e[1], lose()), p.i, e[3], other});
                }
            }
            return hearing;
        }

        int hours(int one, int other) {
            int[] e = said(0, one)[other];
            return e == null ? NEVER : e[0];
        }

        boolean hears(int one, int other) { return hours(one, other) != NEVER; }

        World without(int bits) {
            World w = copy();
            for (Plant p : w.plants) {
                p.dead |= (bits >> p.i & 1) == 1;
            }
            return w;
        }
    }

    World world = new World();
    World image;
    List<String> gardens = new ArrayList<>();
    String text = "";
    List<Integer> trace = new ArrayList<>();
    Object[] tapes = new Object[6];

    boolean has(int plant) { return plant >= 0 && plant < world.plants.size(); }
    Plant the(int plant) { return world.plants.get(plant); }
    static boolean word(int word) { return word >= 0 && word <= 9999; }

    static int bits(Iterable<Integer> plants) {
        int bits = 0;
        for (int p : plants) {
            bits |= 1 << p;
        }
        return bits;
    }

    // ---- plants, gardens

    public int plant(int kind, int v) {
        if (kind < 0 || kind > 6) return NONE;
        if (v < 0 || v > 9) return BAD;
        if (world.plants.size() == 8) return FULL;
        Plant p = made(kind);
        p.i = world.plants.size();
        p.v = v;
        world.plants.add(p);
        return p.i;
    }

    public int of(int plant, int what) {
        if (!has(plant) || what < 0 || what > 5) return NONE;
        Plant p = the(plant);
        return switch (what) {
            case 0 -> p.kind();
            case 1 -> p.v;
            case 2 -> bits(p.touches);
            case 3 -> p.dead ? 1 : 0;
            case 4 -> world.pace(p);
            default -> world.takes(p);
        };
    }

    public int says(int plant, int word) {
        return !has(plant) ? NONE : !word(word) ? BAD : the(plant).says(word, world.lose());
    }

    public int touch(int plant, int other, boolean is) {
        if (!has(plant) || !has(other)) return NONE;
        if (plant == other) return BAD;
        Set<Integer> touches = the(plant).touches;
        boolean changes = is ? touches.add(other) : touches.remove(other);
        return changes == is ? 0 : 1;
    }

    public int kill(int plant, boolean is) {
        if (!has(plant)) return NONE;
        boolean was = the(plant).dead;
        the(plant).dead = is;
        return was ? 1 : 0;
    }

    public int row(int plant, int part, int n) {
        if (!has(plant) || part < 0 || part > 3) return NONE;
        if (n < 0 || n > 9) return BAD;
        if (!(the(plant) instanceof Told)) return STATE;
        int was = the(plant).row[part];
        the(plant).row[part] = n;
        return was;
    }

    public int feed(int sign) {
        if (sign < 0 || sign > 127) return BAD;
        if (text.length() == 100) return FULL;
        text += (char) sign;
        return text.length();
    }

    public int garden() {
        if (gardens.size() == 6) return FULL;
        String read = text;
        text = "";
        int fault = Grammar.fault(read);
        if (fault >= 0) return -10 - fault;
        gardens.add(read);
        world.garden = read;
        return gardens.size() - 1;
    }

    public int told(int what) {
        if (what == 0) return world.hour;
        if (what == 1) return world.frost();
        if (what == 2) return world.lose();
        if (what != 3) return NONE;
        int bits = 0;
        for (Plant p : world.plants) {
            bits += p.dead ? 1 << p.i : 0;
        }
        return bits;
    }

    public int pass(int n) {
        if (n < 0 || n > 99) return BAD;
        if (world.hour + n > 9999) return STATE;
        return world.hour += n;
    }

    // ---- what is heard

    public int heard(int one, int word, int other, int what) {
        if (!has(one) || !has(other) || what < 0 || what > 2) return NONE;
        if (!word(word)) return BAD;
        int[] e = world.said(word, one)[other];
        return e == null ? NEVER : e[what];
    }

    public int by(int one, int n) {
        if (!has(one)) return NONE;
        if (n < 0 || n > 9999) return BAD;
        int bits = 0;
        for (int[] e : world.said(0, one)) {
            bits |= e != null && e[0] <= n ? 1 << e[4] : 0;
        }
        return bits;
    }

    public int right(int one, int word) {
        if (!has(one)) return NONE;
        if (!word(word)) return BAD;
        int bits = 0;
        for (int[] e : world.said(word, one)) {
            bits |= e != null && e[4] != one && e[1] == word ? 1 << e[4] : 0;
        }
        return bits;
    }

    public int last(int one) {
        if (!has(one)) return NONE;
        int last = NEVER;
        for (int[] e : world.said(0, one)) {
            last = e == null ? last : Math.max(last, e[0]);
        }
        return last;
    }

    // ---- cuts, rounds

    public int cut(int one, int other, int what) {
        if (!has(one) || !has(other) || what < 0 || what > 1) return NONE;
        if (one == other) return BAD;
        int many = 4;
        int which = NEVER;
        for (int set = 255; set >= 0; set--) {
            boolean others = (set >> one & 1) == 0 && (set >> other & 1) == 0 && set >> world.plants.size() == 0;
            if (others && Integer.bitCount(set) <= Math.min(3, many) && !world.without(set).hears(one, other)) {
                many = Integer.bitCount(set);
                which = set;
            }
        }
        return which == NEVER ? NEVER : what == 0 ? many : which;
    }

    public int needed(int one, int other) {
        if (!has(one) || !has(other)) return NONE;
        if (one == other) return BAD;
        int bits = 0;
        for (int p = 0; p < world.plants.size(); p++) {
            if (p != one && p != other && world.hears(one, other) && !world.without(1 << p).hears(one, other)) {
                bits += 1 << p;
            }
        }
        return bits;
    }

    public int round(int one, int word, int what) {
        if (!has(one) || what < 0 || what > 1) return NONE;
        if (!word(word)) return BAD;
        List<int[]> back = new ArrayList<>();
        for (int[] e : world.said(word, one)) {
            if (e != null && the(e[4]).touches.contains(one)) {
                back.add(new int[] {e[0] + world.takes(the(e[4])), the(e[4]).says(e[1], world.lose()), e[4]});
            }
        }
        back.sort(Comparator.<int[]>comparingInt(b -> b[0]).thenComparingInt(b -> b[2]));
        return back.isEmpty() ? NEVER : back.get(0)[what];
    }

    // ---- meeting, joining, listening

    public int meet(int one, int other) {
        if (!has(one) || !has(other)) return NONE;
        if (one == other) return BAD;
        int bits = 0;
        for (int[] e : world.said(0, one, other)) {
            bits |= e != null && e[3] == one ? 1 << e[4] : 0;
        }
        return bits;
    }

    public int join(int one, int other, int what) {
        if (!has(one) || !has(other) || what < 0 || what > 1) return NONE;
        if (one == other) return BAD;
        int best = world.hours(one, other);
        int which = NEVER;
        for (int p = 0; p < world.plants.size(); p++) {
            for (int q = 0; q < world.plants.size(); q++) {
                World w = world.copy();
                if (p == q || !w.plants.get(p).touches.add(q)) {
                    continue;
                }
                int hours = w.hours(one, other);
                if (hours != NEVER && (best == NEVER || hours < best)) {
                    best = hours;
                    which = 10 * p + q;
                }
            }
        }
        return which == NEVER ? NEVER : what == 0 ? which : best;
    }

    public int listen(int word) {
        if (!word(word)) return BAD;
        int best = NEVER;
        int most = 0;
        for (int at = 0; at < world.plants.size(); at++) {
            Set<String> unlike = new HashSet<>();
            for (int one = 0; one < world.plants.size(); one++) {
                int[] e = world.said(word, one)[at];
                unlike.add(e == null ? "never" : e[0] + " hours: " + e[1]);
            }
            if (unlike.size() > most) {
                most = unlike.size();
                best = at;
            }
        }
        return best;
    }

    // ---- seen, odds

    public int see(int plant, int word, int hours) {
        if (plant == -1) {
            world.seen.clear();
            return 0;
        }
        if (!has(plant)) return NONE;
        if (!word(word) || hours < 0 || hours > 9999) return BAD;
        if (world.seen.size() == 5) return FULL;
        world.seen.add(new int[] {plant, word, hours});
        return world.seen.size();
    }

    public int who(int what) {
        if (what < 0 || what > 1) return NONE;
        List<Integer> ways = new ArrayList<>();
        for (int one = 0; one < world.plants.size(); one++) {
            for (int word = 0; word < 100; word++) {
                int[][] hearing = world.said(word, one);
                if (world.seen.stream().allMatch(s ->
                        hearing[s[0]] != null && hearing[s[0]][1] == s[1] && hearing[s[0]][0] == s[2])) {
                    ways.add(100 * one + word);
                }
            }
        }
        return what == 0 ? ways.size() : ways.isEmpty() ? NEVER : ways.get(0);
    }

    public long odds(int one, int other, int part) {
        if (!has(one) || !has(other) || one == other || part < 0 || part > 1) return NO;
        int all = 0;
        int still = 0;
        for (Plant p : world.plants) {
            if (p.i != one && p.i != other && !p.dead) {
                all++;
                still += world.without(1 << p.i).hears(one, other) ? 1 : 0;
            }
        }
        return fraction(still, all, part);
    }

    public long mean(int one, int part) {
        if (!has(one) || part < 0 || part > 1) return NO;
        int all = 0;
        int sum = 0;
        for (int[] e : world.said(0, one)) {
            all += e == null ? 0 : 1;
            sum += e == null ? 0 : e[0];
        }
        return fraction(sum, all, part);
    }

    static long fraction(int above, int below, int part) {
        if (below == 0) return NO;
        int common = java.math.BigInteger.valueOf(above).gcd(java.math.BigInteger.valueOf(below)).intValue();
        return (part == 0 ? above : below) / common;
    }

    // ---- plans, books

    public int plan(int what, int plant) {
        if (what == -1) {
            world.plan.clear();
            return 0;
        }
        if (what < 0 || what > 2 || (what < 2 && !has(plant))) return NONE;
        if (world.plan.size() == 8) return FULL;
        world.plan.add(new int[] {what, plant});
        return world.plan.size();
    }

    public int planned(int one, int other) {
        if (!has(one) || !has(other)) return NONE;
        World w = world.copy();
        for (int[] row : world.plan) {
            if (row[0] == 2) {
                w.hour += 6;
            } else {
                w.plants.get(row[1]).dead = row[0] == 0;
            }
        }
        return w.hours(one, other);
    }

    public int book(int one, int other, int hours) {
        if (one == -1) {
            world.book.clear();
            return 0;
        }
        if (!has(one) || !has(other)) return NONE;
        if (hours < 0 || hours > 9999) return BAD;
        if (world.book.size() == 8) return FULL;
        world.book.add(new int[] {one, other, hours});
        return world.book.size();
    }

    public int looked() {
        for (int k = 0; k < world.book.size(); k++) {
            int[] row = world.book.get(k);
            if (world.hours(row[0], row[1]) != row[2]) return k;
        }
        return NEVER;
    }

    // ---- judging, the image, acts, tapes

    public int judge(int tape, int i) {
        if (tape < 0 || tape > 5) return NONE;
        int looked = 0;
        try {
            boolean[] row = (boolean[]) tapes[tape];
            for (Plant p : world.plants) {
                for (int q = 0; q < world.plants.size(); q++) {
                    if (row[Math.addExact(i, looked)] != p.touches.contains(q)) return 10 * p.i + q;
                    looked++;
                }
            }
            return NEVER;
        } catch (ClassCastException e) {
            return -12;
        } catch (NullPointerException | ArrayIndexOutOfBoundsException | ArithmeticException e) {
            return 100 + looked;
        }
    }

    public int image() {
        image = world.copy();
        return world.plants.size();
    }

    public int undo() {
        if (image == null) return STATE;
        world = image.copy();
        return world.plants.size();
    }

    public int act(int plant, int act, int x) {
        trace = new ArrayList<>();
        if (!has(plant) || act < 0 || act > 2) return 0;
        Plant p = the(plant);
        p.trace = trace;
        return act == 0 ? p.hears(x) : act == 1 ? p.says(x) : p.tells(x);
    }

    public int trace(int i) {
        return i < 0 || i >= Math.min(20, trace.size()) ? NONE : trace.get(i);
    }

    public int taken(int plant, int k) {
        if (k < 0 || k > 6) return BAD;
        if (!has(plant)) return -11;
        return made(k).getClass().isInstance(the(plant)) ? the(plant).kind() : -12;
    }

    public int count(int what) {
        return switch (what) {
            case 0 -> world.plants.size();
            case 1 -> gardens.size();
            case 2 -> world.seen.size();
            case 3 -> world.plan.size();
            case 4 -> world.book.size();
            case 5 -> text.length();
            case 6 -> trace.size();
            default -> BAD;
        };
    }

    public int tape(int tape, int sort, int n) {
        if (tape < 0 || tape > 5) return NONE;
        if (sort < -1 || sort > 4 || (sort != -1 && n > 60)) return BAD;
        if (sort == -1) {
            tapes[tape] = null;
            return 1;
        }
        Class<?>[] sorts = {byte.class, short.class, int.class, long.class, boolean.class};
        try {
            tapes[tape] = Array.newInstance(sorts[sort], n);
            return 1;
        } catch (NegativeArraySizeException e) {
            return -14;
        }
    }

    public int item(int tape, int i, long v) {
        if (tape < 0 || tape > 5) return NONE;
        Object row = tapes[tape];
        try {
            if (row instanceof byte[]) Array.setByte(row, i, (byte) v);
            else if (row instanceof short[]) Array.setShort(row, i, (short) v);
            else if (row instanceof int[]) Array.setInt(row, i, (int) v);
            else if (row instanceof boolean[]) Array.setBoolean(row, i, v != 0);
            else Array.setLong(row, i, v);
            return 1;
        } catch (NullPointerException e) {
            return -11;
        } catch (ArrayIndexOutOfBoundsException e) {
            return -13;
        }
    }

    public long read(int tape, int i) {
        if (tape < 0 || tape > 5) return NO;
        try {
            Object row = tapes[tape];
            return row instanceof boolean[] ? (Array.getBoolean(row, i) ? 1 : 0) : Array.getLong(row, i);
        } catch (NullPointerException | ArrayIndexOutOfBoundsException e) {
            return NO;
        }
    }

    public int shift(int tape, int i, int other, int j, int n) {
        if (tape < 0 || tape > 5 || other < 0 || other > 5) return NONE;
        try {
            System.arraycopy(tapes[tape], i, tapes[other], j, n);
            return n;
        } catch (NullPointerException e) {
            return -11;
        } catch (ArrayStoreException e) {
            return -12;
        } catch (IndexOutOfBoundsException e) {
            return -13;
        }
    }
}
