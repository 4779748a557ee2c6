import java.lang.reflect.InvocationTargetException;
import java.lang.reflect.Method;
import java.util.Arrays;
import java.util.Comparator;
import java.util.List;
import java.util.Random;

/** Every call with any numbers at all, on houses in any state: nothing but what the face declares is thrown. */
public final class WildTest {
    private static final long[] NUMBERS = {0, 1, 2, 3, 4, 5, 7, 9, 10, 12, 15, 16, 19, 20, 29, 30, 31, 39, 40, 41, 59,
        60, 63, 64, 99, 100, 255, 300, 301, 1000, 9999, 10000, 10001, 99999, 100000, 1000000, 1000001, -1, -2, -3,
        -64, -100, 0x6c65743bL, 0x6b656570L, 0x20393b20L, Integer.MAX_VALUE, Integer.MIN_VALUE, Long.MAX_VALUE,
        Long.MIN_VALUE};

    public static void main(String[] args) throws IllegalAccessException {
        List<Method> calls = Arrays.stream(OneHand.class.getDeclaredMethods())
                .filter(m -> java.lang.reflect.Modifier.isPublic(m.getModifiers()))
                .sorted(Comparator.comparing(Method::getName)).toList();
        if (calls.size() != 52) {
            System.out.println("the face has " + calls.size() + " calls");
            System.exit(1);
        }
        for (int run = 0; run < 400; run++) {
            Random random = new Random(run);
            OneHand x = new OneHand();
            for (int k = 0; k < 512; k++) {
                Method call = k < 150 ? settling(calls, random) : calls.get(random.nextInt(calls.size()));
                Object[] with = new Object[call.getParameterCount()];
                for (int i = 0; i < with.length; i++) {
                    with[i] = argument(call.getParameterTypes()[i], random);
                }
                made(x, call, with);
            }
        }
        System.out.println("only declared exceptions are thrown");
    }

    private static Method settling(List<Method> calls, Random random) {
        List<String> names = List.of("place", "mark", "hand", "officer", "go", "deed", "tell", "solve", "link", "bar",
                "tray", "feed", "text");
        String name = names.get(random.nextInt(names.size()));
        return calls.stream().filter(m -> m.getName().equals(name)).findFirst().get();
    }

    private static Object argument(Class<?> type, Random random) {
        if (type == boolean.class) {
            return random.nextBoolean();
        }
        long v = random.nextInt(4) == 0 ? NUMBERS[random.nextInt(NUMBERS.length)] : random.nextInt(3);
        if (type == int.class) {
            return (int) v;
        }
        return random.nextBoolean() ? v : 1L << random.nextInt(9) | 1L << random.nextInt(9) | 1L << random.nextInt(9);
    }

    private static void made(OneHand x, Method call, Object[] with) throws IllegalAccessException {
        try {
            call.invoke(x, with);
        } catch (InvocationTargetException e) {
            boolean declared = Arrays.asList(call.getExceptionTypes()).contains(e.getCause().getClass());
            boolean thrown = e.getCause().getMessage() != null && !e.getCause().getMessage().startsWith("Index ");
            if (!declared || !thrown) {
                System.out.println(call.getName() + Arrays.toString(with) + " throws " + e.getCause());
                e.getCause().printStackTrace(System.out);
                System.exit(1);
            }
        }
    }
}
