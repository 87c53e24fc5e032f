import java.lang.reflect.InvocationTargetException;
import java.lang.reflect.Method;
import java.util.Arrays;
import java.util.HashMap;
import java.util.Map;
import java.util.Random;

/** Long runs of calls, drawn from fixed seeds, on CostSteps and on the model: every answer must be the same. */
final class ModelTest {
    private static final int RUNS = 1_500;
    private static final int CALLS = 512;
    private static final String[] NAMES = {
        "part", "price", "price", "price", "price", "price", "uses", "uses", "board", "board", "assembly", "placed",
        "tooling", "currency", "currency", "stock", "alternate", "alternate",
        "total", "total", "total", "best", "each", "suppliers", "changed", "row", "row",
    };
    private static final long[] EDGES = {
        Long.MIN_VALUE, -1, 0, 1, 2, 999, 1_000, 1_001, 99_999, 100_000, 100_001, 999_999, 1_000_000, 1_000_001,
        999_999_999L, 1_000_000_000L, 1_000_000_001L, 1L << 32, (1L << 32) + 1, Long.MAX_VALUE,
    };

    /** What one kind of run draws: few different numbers give many ties, wild ones the edges and wrong inputs. */
    private record Taste(int parts, int makers, int numbers, double wild) {
    }

    private static final Taste[] TASTES = {
        new Taste(3, 3, 4, 0.02), new Taste(6, 8, 12, 0.02), new Taste(30, 8, 60, 0.01),
        new Taste(4, 2, 1_000, 0.15), new Taste(30, 8, 1_000, 0.4),
    };

    private final Random random;
    private final Taste taste;
    private final CostSteps program = new CostSteps();
    private final Model model = new Model();
    private final Map<String, Method> programCalls = callsOf(CostSteps.class);
    private final Map<String, Method> modelCalls = callsOf(Model.class);
    private int couldBe = 0;

    private ModelTest(long seed) {
        random = new Random(seed);
        taste = TASTES[(int) (seed % TASTES.length)];
    }

    public static void main(String[] args) throws IllegalAccessException {
        Check check = new Check();
        long couldBe = 0;
        for (int seed = 0; seed < RUNS; seed++) {
            ModelTest test = new ModelTest(seed);
            test.run(check, seed);
            couldBe += test.couldBe;
        }
        check.yes("that enough totals could be for the runs to say something", couldBe > 10L * RUNS);
        System.out.println(couldBe + " totals could be");
        check.end();
    }

    private static Map<String, Method> callsOf(Class<?> face) {
        Map<String, Method> calls = new HashMap<>();
        for (Method method : face.getDeclaredMethods()) {
            if ((method.getModifiers() & java.lang.reflect.Modifier.PRIVATE) == 0) {
                calls.put(method.getName(), method);
            }
        }
        return calls;
    }

    private void run(Check check, int seed) throws IllegalAccessException {
        int partsFirst = random.nextInt(taste.parts() + 1);
        for (int call = 0; call < CALLS; call++) {
            String name = call < partsFirst ? "part" : drawName();
            Object[] arguments = drawArguments(name);
            long want = answer(modelCalls.get(name), model, arguments);
            long got = answer(programCalls.get(name), program, arguments);
            check.due("run " + seed + ", call " + call + ": " + name + Arrays.toString(arguments), want, got);
            couldBe += name.equals("total") && want >= 0 ? 1 : 0;
        }
    }

    /** Yields come seldom, since a few of them already make every total one that can't be. */
    private String drawName() {
        return random.nextInt(150) == 0 ? "yieldOf" : NAMES[random.nextInt(NAMES.length)];
    }

    private Object[] drawArguments(String name) {
        Class<?>[] types = programCalls.get(name).getParameterTypes();
        Object[] arguments = new Object[types.length];
        for (int i = 0; i < types.length; i++) {
            arguments[i] = types[i] == int.class ? (Object) drawIndex() : (Object) drawNumber();
        }
        if (name.equals("row") || name.equals("each")) {
            arguments[types.length - 1] = random.nextInt(12) == 0 ? drawIndex() : random.nextInt(3);
        }
        return arguments;
    }

    private int drawIndex() {
        if (random.nextDouble() < taste.wild() / 4) {
            return random.nextInt(60) - 20;
        }
        return random.nextInt(random.nextBoolean() ? taste.makers() : taste.parts());
    }

    private long drawNumber() {
        if (random.nextDouble() < taste.wild()) {
            return EDGES[random.nextInt(EDGES.length)];
        }
        return random.nextInt(taste.numbers()) + (random.nextInt(8) == 0 ? 0 : 1);
    }

    /** An exception counts as a number of its own, and one of the machine's as another number on each side. */
    private static long answer(Method call, Object on, Object[] arguments) throws IllegalAccessException {
        try {
            Object answer = call.invoke(on, arguments);
            return answer instanceof Boolean b ? (b ? 1 : 0) : ((Number) answer).longValue();
        } catch (InvocationTargetException e) {
            Class<?> thrown = e.getCause().getClass();
            if (thrown == IndexOutOfBoundsException.class) {
                return -1_001;
            }
            return thrown == IllegalArgumentException.class ? -1_002 : on instanceof Model ? -1_003 : -1_004;
        }
    }
}
