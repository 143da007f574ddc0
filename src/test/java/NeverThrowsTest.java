import java.lang.reflect.InvocationTargetException;
import java.lang.reflect.Method;
import java.lang.reflect.Modifier;
import java.util.Arrays;
import java.util.Comparator;

/** Every call of the face, in unlike states, with numbers from all over what they can be: none may throw. */
public final class NeverThrowsTest {
    private static final long[] NUMBERS = {Long.MIN_VALUE, Integer.MIN_VALUE, Integer.MIN_VALUE + 1, -1000001, -1000,
        -999, -100, -99, 10, 11, 12, 20, 21, 24, 31, 32, 63, 64, 96, 97, 99, 100, 127, 128, 255, 256, 511, 512, 999,
        1000, 1999, 2000, 2001, 9999, 10000, 999999, 1000000, 999999999, 1000000000, Integer.MAX_VALUE - 1,
        Integer.MAX_VALUE, 1L << 32, 1000000000000000L, 1000000000000000000L, Long.MAX_VALUE};
    private static final String[] TEXTS = {
        "",
        "bound 1 1;list a;",
        "bound 4 9;list a 99 99 99 99 99 99;list b -99 -99 -99 -99 -99 -99;list c;row d 6=9999*9999*ahead-place;"
            + "row e 6=8192*8192*32/(0-1);list f 1 2 3 4;ask=told*told*told/said;liar 1;" + "bag 999;".repeat(9)
            + "share 1 96;share 2 96;share 3 96;share 4 96;share 5 96;share 6 96;share 95 96;share 96 96;",
        "bound 2 9;prime 2;share 1 1;list a 1;list b 1;ask=said*9999*9999*9999+turn;liar 9;bag 0;bag 0;",
        "bound 3 3;ask=1/turn;prime 89;share 88 7;share 1 2;list a 0 0 0 0 0 0;bag 5;",
        "bound 4 1;ask=(((((((1;"
    };
    private static final int CALLS = 500;
    private static long seed = 41;
    private static int passed = 0;
    private static int failed = 0;

    public static void main(String[] args) throws Exception {
        Method[] methods = Arrays.stream(TwoAsks.class.getDeclaredMethods())
                .filter(method -> Modifier.isPublic(method.getModifiers()))
                .sorted(Comparator.comparing(Method::getName)).toArray(Method[]::new);
        for (int run = 0; run < 600; run++) {
            TwoAsks x = state(run);
            for (int call = 0; call < CALLS; call++) {
                Method method = methods[any(methods.length)];
                // an empty tape is a text, which would be in place of the one asked about
                if (!method.getName().equals("read") || x.count(6) > 0) {
                    call(x, method);
                }
            }
        }
        System.out.println(passed + " calls answered, " + failed + " threw");
        if (failed > 0) {
            System.exit(1);
        }
    }

    private static int any(int below) {
        seed = seed * 6364136223846793005L + 1442695040888963407L;
        return (int) ((seed >>> 33) % below);
    }

    private static TwoAsks state(int run) {
        TwoAsks x = new TwoAsks();
        Edges.feed(x, TEXTS[run % TEXTS.length]);
        x.read();
        if (run % 2 == 0) {
            x.hide(0);
            for (int i = 0; i < run % 21; i++) {
                x.ask(99 - i);
            }
        }
        return x;
    }

    /** A number that is near to what may be, most times, so that calls come past their first looks. */
    private static long number() {
        return any(3) > 0 ? any(16) - 4 : NUMBERS[any(NUMBERS.length)];
    }

    private static void call(TwoAsks x, Method method) throws IllegalAccessException {
        Class<?>[] kinds = method.getParameterTypes();
        Object[] given = new Object[kinds.length];
        for (int i = 0; i < kinds.length; i++) {
            if (kinds[i] == boolean.class) {
                given[i] = any(2) == 0;
            } else if (kinds[i] == long.class) {
                given[i] = number();
            } else {
                given[i] = (int) number();
            }
        }
        try {
            method.invoke(x, given);
            passed++;
        } catch (InvocationTargetException thrown) {
            failed++;
            System.out.println(method.getName() + Arrays.toString(given) + " threw " + thrown.getCause());
        }
    }
}
