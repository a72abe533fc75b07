import java.lang.reflect.InvocationTargetException;
import java.lang.reflect.Method;
import java.util.ArrayList;
import java.util.Arrays;
import java.util.Comparator;
import java.util.List;
import java.util.Random;

/** Long runs of calls, made up from fixed seeds, on BoxHedge and on the model: each answer must be the same. */
public final class ModelTest {
    private static final int RUNS = 1500, CALLS = 512;
    private static final int[] EDGES = {Integer.MIN_VALUE, Integer.MAX_VALUE, -2, -1, 10, 60, 61, 99, 100, 9999, 10000};

    private final Random random;
    private final BoxHedge hedge = new BoxHedge();
    private final Model model = new Model();
    private final List<String> calls = new ArrayList<>();
    private boolean wrong;

    private ModelTest(long seed) { random = new Random(seed); }

    public static void main(String[] args) throws ReflectiveOperationException {
        Method[] asked = face();
        int bad = 0;
        for (int seed = 0; seed < RUNS && bad < 3; seed++) {
            bad += new ModelTest(seed).run(asked) ? 0 : 1;
        }
        System.out.println(bad == 0 ? RUNS + " runs answer as the model does" : "some runs answer otherwise");
        if (bad != 0) {
            System.exit(1);
        }
    }

    private static Method[] face() {
        Method[] all = Arrays.stream(BoxHedge.class.getDeclaredMethods())
            .filter(m -> java.lang.reflect.Modifier.isPublic(m.getModifiers())).toArray(Method[]::new);
        Arrays.sort(all, Comparator.comparing(Method::getName));
        if (all.length != 39) {
            throw new IllegalStateException("the face has " + all.length + " methods");
        }
        return all;
    }

    private boolean run(Method[] asked) throws ReflectiveOperationException {
        grow();
        while (calls.size() < CALLS && !wrong) {
            int turn = random.nextInt(100);
            if (turn < 2) {
                feed(text());
                call("garden");
            } else if (turn < 6) {
                call("see", below(8), heardNow(1), heardNow(0));
            } else if (turn < 8) {
                call("book", below(8), below(8), heardNow(0));
            } else if (turn < 11) {
                tellTouches();
            } else if (turn < 18) {
                call("touch", below(8), below(8), random.nextInt(3) > 0);
            } else if (turn < 20) {
                call("kill", below(8), random.nextInt(3) == 0);
            } else if (turn < 22) {
                call("row", below(8), below(4), below(10));
            } else if (turn < 40) {
                ask();
            } else {
                Method m = asked[random.nextInt(asked.length)];
                call(m.getName(), made(m));
            }
        }
        return !wrong;
    }

    /** A question of two plants that are there. */
    private void ask() throws ReflectiveOperationException {
        int size = model.world.plants.size();
        if (size < 2) {
            call("plant", below(7), below(10));
            return;
        }
        int one = random.nextInt(size);
        int other = (one + 1 + random.nextInt(size - 1)) % size;
        String[] questions = {"cut", "join", "join", "join", "odds", "needed", "meet", "planned"};
        String question = questions[random.nextInt(questions.length)];
        if (question.equals("needed") || question.equals("meet") || question.equals("planned")) {
            call(question, one, other);
        } else {
            call(question, one, other, 0);
            call(question, one, other, 1);
        }
    }

    private void grow() throws ReflectiveOperationException {
        int plants = random.nextInt(10);
        for (int k = 0; k < plants; k++) {
            call("plant", below(7), below(10));
        }
        int touches = random.nextInt(28);
        for (int k = 0; k < touches; k++) {
            call("touch", below(8), below(8), true);
        }
        if (random.nextInt(4) > 0) {
            feed(text());
            call("garden");
        }
    }

    private void feed(String text) throws ReflectiveOperationException {
        for (int k = 0; k < text.length() && !wrong; k++) {
            call("feed", (int) text.charAt(k));
        }
    }

    /** A row of booleans that tells the touches, mostly as they are, from some place on. */
    private void tellTouches() throws ReflectiveOperationException {
        int tape = below(6);
        int start = below(4);
        int size = model.world.plants.size();
        call("tape", tape, 4, Math.min(60, start + size * size - (random.nextInt(3) == 0 ? below(9) : 0)));
        for (int k = 0; k < size * size && !wrong; k++) {
            boolean is = model.the(k / size).touches.contains(k % size) != (random.nextInt(60) == 0);
            if (is) {
                call("item", tape, start + k, 1L);
            }
        }
        call("judge", tape, start);
    }

    private int heardNow(int what) {
        int size = model.world.plants.size();
        if (size == 0) {
            return 0;
        }
        int answer = model.heard(random.nextInt(size), random.nextInt(100), random.nextInt(size), what);
        return Math.max(0, answer);
    }

    private int below(int n) { return random.nextInt(20) == 0 ? EDGES[random.nextInt(EDGES.length)] : random.nextInt(n); }

    private Object[] made(Method m) {
        Object[] args = new Object[m.getParameterCount()];
        for (int k = 0; k < args.length; k++) {
            Class<?> type = m.getParameterTypes()[k];
            args[k] = type == int.class ? (Object) number() : type == long.class ? (Object) random.nextLong()
                : (Object) random.nextBoolean();
        }
        return args;
    }

    private int number() {
        int turn = random.nextInt(20);
        if (turn < 1) {
            return EDGES[random.nextInt(EDGES.length)];
        }
        if (turn < 3) {
            return random.nextInt(10001);
        }
        if (turn < 5) {
            return random.nextInt(100);
        }
        return turn < 11 ? random.nextInt(3) - (random.nextInt(12) == 0 ? 1 : 0) : random.nextInt(8);
    }

    // ---- texts: mostly gardens, some with a byte that is wrong, some cut short

    private String text() {
        StringBuilder text = new StringBuilder();
        int clauses = 1 + random.nextInt(random.nextInt(6) == 0 ? 12 : 5);
        for (int k = 0; k < clauses; k++) {
            text.append(k > 0 ? ";" : "").append(clause());
        }
        int turn = random.nextInt(8);
        if (turn == 0) {
            text.setCharAt(random.nextInt(text.length()), "slowquickfrostlose0123456789 <=>!()&|;pkvthdx".charAt(random.nextInt(45)));
        } else if (turn == 1) {
            text.setLength(random.nextInt(text.length() + 1));
        } else if (turn == 2) {
            text.insert(random.nextInt(text.length() + 1), "!(&|; )09p".charAt(random.nextInt(10)));
        }
        return text.toString();
    }

    private String clause() {
        int word = random.nextInt(6);
        if (word == 0) {
            return (random.nextBoolean() ? "frost " : "lose ") + random.nextInt(random.nextBoolean() ? 100 : 4);
        }
        return (word < 4 ? "slow " : "quick ") + random.nextInt(random.nextBoolean() ? 5 : 30) + " " + either(0);
    }

    private String either(int depth) {
        String e = both(depth);
        return random.nextInt(4) == 0 ? e + "|" + either(depth) : e;
    }

    private String both(int depth) {
        String t = part(depth);
        return random.nextInt(4) == 0 ? t + "&" + both(depth) : t;
    }

    private String part(int depth) {
        int turn = depth > 4 ? 9 : random.nextInt(10);
        if (turn < 2) {
            return "!" + part(depth + 1);
        }
        if (turn < 4) {
            return "(" + either(depth + 1) + ")";
        }
        return "" + "pkvthd".charAt(random.nextInt(6)) + "<=>".charAt(random.nextInt(3))
            + random.nextInt(random.nextInt(4) == 0 ? 100 : 8);
    }

    private void call(String name, Object... args) throws ReflectiveOperationException {
        if (wrong || calls.size() >= CALLS) {
            return;
        }
        long due = answer(model, name, args);
        calls.add(name + Arrays.toString(args) + " = " + due);
        Object got;
        try {
            got = answer(hedge, name, args);
        } catch (InvocationTargetException e) {
            got = e.getCause();
        }
        if (!got.equals(due)) {
            wrong = true;
            calls.forEach(System.out::println);
            System.out.println("the last one answered " + got);
        }
    }

    private static long answer(Object object, String name, Object[] args) throws ReflectiveOperationException {
        for (Method m : object.getClass().getMethods()) {
            if (m.getName().equals(name) && m.getDeclaringClass() == object.getClass()) {
                return ((Number) m.invoke(object, args)).longValue();
            }
        }
        throw new IllegalArgumentException(name);
    }
}
