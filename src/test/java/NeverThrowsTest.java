import java.lang.reflect.InvocationTargetException;
import java.lang.reflect.Method;
import java.util.ArrayList;
import java.util.Arrays;
import java.util.Comparator;
import java.util.List;
import java.util.Random;

/** Calls of the face with any numbers, in any order, on objects that are empty, begun or full: none throws. */
public final class NeverThrowsTest {
    private static final int RUNS = 3000;
    private static final int CALLS = 512;
    private static final int[] ODD = {
        0, 1, -1, 2, 3, 5, 6, 7, 9, 10, 11, 12, 24, 30, 40, 50, 59, 60, 61, 63, 64, 99, 100, 101, 119, 120, 255, 256, 1023, 1024, 3010,
        Integer.MAX_VALUE, Integer.MAX_VALUE - 1, Integer.MIN_VALUE, Integer.MIN_VALUE + 1, 1 << 16, -(1 << 16), 1 << 30, -100
    };

    private static final List<Method> METHODS = new ArrayList<>();
    private static long calls;
    private static int wrong;

    private NeverThrowsTest() {
    }

    private static Object number(Random random, Class<?> type) {
        int kind = random.nextInt(4);
        long v = kind == 0 ? random.nextInt(12) : kind == 1 ? random.nextInt(64) : kind == 2 ? ODD[random.nextInt(ODD.length)]
            : random.nextInt() >> random.nextInt(32);
        if (type == int.class) {
            return (int) v;
        }
        return random.nextBoolean() ? v : random.nextLong();
    }

    private static VotesUntouched begun(Random random) {
        switch (random.nextInt(3)) {
            case 0:
                return new VotesUntouched();
            case 1:
                return Edges.some();
            default:
                return Edges.full();
        }
    }

    private static void run(long seed) throws IllegalAccessException {
        Random random = new Random(seed);
        VotesUntouched x = begun(random);
        // A run dwells upon one call, so that what it fills is filled; to begin takes up to 250 calls.
        int dwells = random.nextInt(METHODS.size());
        for (int i = 0; i < CALLS - 250; i++) {
            Method m = METHODS.get(random.nextInt(4) == 0 ? dwells : random.nextInt(METHODS.size()));
            Object[] with = Arrays.stream(m.getParameterTypes()).map(t -> number(random, t)).toArray();
            calls++;
            try {
                m.invoke(x, with);
            } catch (InvocationTargetException e) {
                wrong++;
                System.out.println(m.getName() + Arrays.toString(with) + " throws " + e.getCause() + " in run " + seed);
            }
        }
    }

    public static void main(String[] args) throws IllegalAccessException {
        for (Method m : VotesUntouched.class.getDeclaredMethods()) {
            if (java.lang.reflect.Modifier.isPublic(m.getModifiers())) {
                METHODS.add(m);
            }
        }
        METHODS.sort(Comparator.comparing(Method::getName));
        int runs = args.length > 0 ? Integer.parseInt(args[0]) : RUNS;
        for (int seed = 0; seed < runs && wrong < 10; seed++) {
            run(seed);
        }
        System.out.println(runs + " runs, " + calls + " calls, " + wrong + " thrown");
        if (wrong != 0) {
            System.exit(1);
        }
    }
}
