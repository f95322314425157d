import java.lang.reflect.InvocationTargetException;
import java.lang.reflect.Method;
import java.lang.reflect.Modifier;
import java.util.ArrayList;
import java.util.Comparator;
import java.util.List;
import java.util.Map;
import java.util.Random;

/**
 * What holds for all calls at once: no call throws, for any arguments, in any state, also behind the 512th call (where
 * the answers are free); the same calls answer the same; and what one object is told, another does not know.
 */
public final class ObjectsTest {
    private static final int CALLS = 512;
    private static final int CALLS_BEYOND = 20000;
    private static final int[] EDGES = {
        Integer.MIN_VALUE, Integer.MIN_VALUE + 1, -1000000, -89478486, -25, -24, -2, -1, 0, 1, 2, 3, 4, 5, 6, 7, 8, 11, 12, 28, 29,
        47, 48, 51, 52, 53, 100, 101, 127, 128, 335, 336, 363, 364, 365, 399, 400, 401, 17471, 17472, 17473, 89478486,
        Integer.MAX_VALUE - 1, Integer.MAX_VALUE,
    };

    private static final String[] AT_FIRST = {
        "land", "person", "person", "row", "cell", "cell", "series", "option", "option", "option", "role", "role", "role", "plan",
    };

    /** The least and the greatest of each argument, as a call mostly has them. */
    private static final Map<String, int[]> LIKELY = Map.ofEntries(
            Map.entry("land", new int[] {-24, 28}),
            Map.entry("person", new int[] {0, 3, 0, 3}),
            Map.entry("row", new int[] {0, 7, -1, 48}),
            Map.entry("cell", new int[] {0, 7, 0, 20, -1, 20}),
            Map.entry("change", new int[] {0, 3, 0, 1300, -24, 28}),
            Map.entry("feast", new int[] {0, 3, 0, 30}),
            Map.entry("busy", new int[] {0, 7, 0, 600, 500, 700, 0, 1}),
            Map.entry("cant", new int[] {0, 7, 0, 3, 0, 3}),
            Map.entry("series", new int[] {1, 3, -1, 0, -1, 2}),
            Map.entry("option", new int[] {0, 3, 100, 300}),
            Map.entry("role", new int[] {0, 3, 0, 7, 0, 5}),
            Map.entry("local", new int[] {0, 3, 0, 17471, 0, 9, 0, 3}),
            Map.entry("when", new int[] {0, 3, -1, 30, 0, 47, 0, 9, 0, 2}),
            Map.entry("can", new int[] {0, 7, 0, 1300, 1, 6, 0, 9}),
            Map.entry("cost", new int[] {0, 7, 0, 1300, 1, 6, 0, 9}),
            Map.entry("span", new int[] {0, 7, 0, 700, 0, 20}),
            Map.entry("fits", new int[] {0, 3, 0, 4, 0, 2, -1, 3, 0, 3}),
            Map.entry("plan", new int[] {0, 3, 0, 3, 1, 4, 0, 3}),
            Map.entry("stuck", new int[] {0, 2}),
            Map.entry("move", new int[] {0, 4, 0, 9}),
            Map.entry("planned", new int[] {0, 3, 0, 3, 0, 3}),
            Map.entry("comes", new int[] {0, 7, 0, 3, 0, 3, 0, 3}),
            Map.entry("sum", new int[] {0, 7, 0, 9}),
            Map.entry("shifted", new int[] {0, 9, 0, 9}),
            Map.entry("count", new int[] {0, 4}));

    private static final List<Method> FACE = new ArrayList<>();
    private static int wrong;

    private record Call(Method method, Object[] args) {
        Object askOf(ClockCall x) {
            try {
                return method.invoke(x, args);
            } catch (InvocationTargetException e) {
                return e.getCause();
            } catch (IllegalAccessException e) {
                throw new IllegalStateException(e);
            }
        }

        String text() {
            StringBuilder all = new StringBuilder(method.getName()).append("(");
            for (int k = 0; k < args.length; k++) all.append(k == 0 ? "" : ", ").append(args[k]);
            return all.append(")").toString();
        }
    }

    public static void main(String[] args) {
        for (Method m : ClockCall.class.getDeclaredMethods()) {
            if (Modifier.isPublic(m.getModifiers())) FACE.add(m);
        }
        FACE.sort(Comparator.comparing(Method::getName));
        for (int seed = 0; seed < 20; seed++) nothingThrows(new Random(seed), CALLS_BEYOND);
        for (int seed = 0; seed < 200; seed++) sameCallsSameAnswers(seed);
        for (int seed = 0; seed < 200; seed++) eachByItself(seed);
        System.out.println(wrong == 0 ? "objects stand by themselves, and no call throws" : wrong + " checks failed");
        if (wrong != 0) System.exit(1);
    }

    private static void check(boolean is, String what) {
        if (!is && wrong++ < 20) System.out.println(what);
    }

    private static void nothingThrows(Random random, int calls) {
        ClockCall x = new ClockCall();
        for (int k = 0; k < calls; k++) {
            Call call = draw(random, k);
            Object answer = call.askOf(x);
            check(!(answer instanceof Throwable), "call " + k + ", " + call.text() + ", threw " + answer);
        }
    }

    private static List<Call> run(int seed) {
        Random random = new Random(seed);
        List<Call> all = new ArrayList<>();
        for (int k = 0; k < CALLS; k++) all.add(draw(random, k));
        return all;
    }

    private static List<Object> answers(List<Call> calls) {
        ClockCall x = new ClockCall();
        List<Object> all = new ArrayList<>();
        for (Call call : calls) all.add(call.askOf(x));
        return all;
    }

    private static void sameCallsSameAnswers(int seed) {
        check(answers(run(seed)).equals(answers(run(seed))), "run " + seed + " answers otherwise the second time");
    }

    private static void eachByItself(int seed) {
        List<Call> mine = run(2 * seed), others = run(2 * seed + 1);
        List<Object> due = answers(mine), dueOthers = answers(others);
        ClockCall x = new ClockCall(), y = new ClockCall();
        for (int k = 0; k < CALLS; k++) {
            boolean isAlike = mine.get(k).askOf(x).equals(due.get(k)) & others.get(k).askOf(y).equals(dueOthers.get(k));
            check(isAlike, "run " + seed + ", call " + k + ": another object's calls tell");
        }
    }

    /** At first what there is is told, mostly; later all calls come. Arguments are mostly such that a call is not refused. */
    private static Call draw(Random random, int k) {
        String name = FACE.get(random.nextInt(FACE.size())).getName();
        if (k < 150) name = AT_FIRST[random.nextInt(AT_FIRST.length)];
        Method m = FACE.get(0);
        for (Method one : FACE) m = one.getName().equals(name) ? one : m;
        int[] likely = LIKELY.get(name);
        Object[] args = new Object[m.getParameterCount()];
        for (int a = 0; a < args.length; a++) {
            boolean isTruth = m.getParameterTypes()[a] == boolean.class;
            args[a] = isTruth ? (Object) random.nextBoolean() : (Object) number(random, likely[2 * a], likely[2 * a + 1]);
        }
        return new Call(m, args);
    }

    private static int number(Random random, int least, int greatest) {
        int kind = random.nextInt(60);
        if (kind == 0) return random.nextInt();
        return kind < 4 ? EDGES[random.nextInt(EDGES.length)] : least + random.nextInt(greatest - least + 1);
    }
}
