import java.lang.reflect.InvocationTargetException;
import java.lang.reflect.Method;
import java.lang.reflect.Modifier;
import java.util.Arrays;
import java.util.Comparator;
import java.util.Random;

/** Every call with every kind of number, in many states: none may ever throw. */
public final class ExtremesTest {
    private static final int[] EDGES = {Integer.MIN_VALUE, Integer.MIN_VALUE + 1, -1000, -33, -32, -2, -1, 0, 1, 2, 3, 4, 5, 6, 9,
        10, 11, 15, 16, 20, 21, 23, 24, 25, 31, 39, 40, 41, 47, 48, 49, 60, 61, 200, 201, 900, 901, Integer.MAX_VALUE - 9,
        Integer.MAX_VALUE};
    private static final String[] TOWNS = {"", "chimney 0 0 9;", "chimney 39 12 9 9 9 9 9 9 from 23;wind 0 6 0;wind 30 0 6;layer 20;",
        "chimney 5 0 4 4;chimney 6 1 3;chimney 5 1 9 9 from 2 to 9;wind 0 4 3;fine 99;thick 1;",
        "chimney 5 0 9 9 9 9 9 9;".repeat(5) + "thick 1;", "chimney 5 12 9 9 9 9 9 9;".repeat(10) + "thick 1;layer 0;"};

    private ExtremesTest() {
    }

    public static void main(String[] args) throws Exception {
        Random random = new Random(7);
        Method[] methods = Arrays.stream(SmokesApart.class.getDeclaredMethods()).filter(m -> Modifier.isPublic(m.getModifiers()))
            .sorted(Comparator.comparing(Method::getName)).toArray(Method[]::new);
        Check.due("the whole face", methods.length, 43);
        int thrown = 0;
        for (int round = 0; round < 240; round++) {
            SmokesApart it = Check.town(TOWNS[round % TOWNS.length]);
            for (int c = 0; c < 10; c++) if (random.nextBoolean()) it.light(c, random.nextInt(24));
            for (int call = 0; call < 400; call++) thrown += thrownBy(it, methods[random.nextInt(methods.length)], random);
        }
        Check.due("calls that threw", thrown, 0);
        Check.end();
    }

    private static int thrownBy(SmokesApart it, Method m, Random random) throws Exception {
        Object[] with = new Object[m.getParameterCount()];
        for (int i = 0; i < with.length; i++) {
            Class<?> type = m.getParameterTypes()[i];
            int edge = random.nextInt(3) == 0 ? random.nextInt(4) : EDGES[random.nextInt(EDGES.length)];
            if (type == boolean.class) with[i] = random.nextBoolean();
            else if (type == long.class) with[i] = random.nextInt(4) == 0 ? random.nextLong() : (Object) (long) edge;
            else with[i] = edge;
        }
        try {
            m.invoke(it, with);
            return 0;
        } catch (InvocationTargetException e) {
            System.out.println(m.getName() + Arrays.toString(with) + " threw " + e.getCause());
            return 1;
        }
    }
}
