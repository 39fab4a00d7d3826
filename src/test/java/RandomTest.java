import java.lang.reflect.InvocationTargetException;
import java.lang.reflect.Method;
import java.lang.reflect.Modifier;
import java.util.ArrayList;
import java.util.Comparator;
import java.util.List;
import java.util.NoSuchElementException;

/**
 * Runs of 512 calls with arguments at and beyond the edges: no call throws but cell() as the document says, and the
 * same calls give the same answers.
 */
public final class RandomTest {
    private static final Checks CHECKS = new Checks();
    private static final String[] TEXTS = {
        "",
        "town 8 6;ward a right 5;ward b down 4;ward c left 3;ward d up 2;part a 0 0 6 0;part b 7 0 7 4;part c 1 5 7 5;"
            + "part d 0 1 0 5;part a 1 1 3 4;stair 7 5;stair 0 5;stair 3 3;wall 4 4;wall 2 2;thing p 7 1 1;thing q 9 0 0;"
            + "thing r 50 7 3;law joy worth*(year+1)-cross;law push here*5+against*9+cross*worth/(rich-4);seed 99999;",
        "town 1 1;ward a still 0;part a 0 0 0 0;thing p 0 0 0;law joy 1/0;law push 9999*9999*9999*9999;",
        "town 4 3;ward a right 5;ward b left 9;part a 0 0 1 2;part b 2 0 3 2;thing p 3 0 0;thing q 4 3 0;stair 1 2;",
        "ward a up 1;part a 0 0 5 0;",
        "law joy ((((((((1+(2;",
    };
    private static final int[] EDGES = {
        -1, 0, 1, 2, 3, 4, 5, 7, 8, 15, 16, 20, 24, 47, 48, 64, 99, 100, 200, 201, 255, 256, 700, -2,
        Integer.MAX_VALUE, Integer.MIN_VALUE, 1 << 25, -65536, 65536,
    };
    private long number = 20261118;

    public static void main(String[] args) throws IllegalAccessException {
        RandomTest test = new RandomTest();
        List<Method> face = face();
        CHECKS.due("the face", face.size(), 41);
        for (int i = 0; i < 150; i++) {
            test.run(face);
        }
        CHECKS.end("RandomTest");
    }

    private static List<Method> face() {
        List<Method> face = new ArrayList<>();
        for (Method method : WardFalls.class.getDeclaredMethods()) {
            if (Modifier.isPublic(method.getModifiers())) {
                face.add(method);
            }
        }
        face.sort(Comparator.comparing(Method::getName));
        return face;
    }

    private void run(List<Method> face) throws IllegalAccessException {
        WardFalls x = new WardFalls();
        WardFalls twin = new WardFalls();
        boolean texts = next(4) == 0;
        String first = TEXTS[next(TEXTS.length)];
        Checks.load(x, first);
        Checks.load(twin, first);
        for (int i = 0; i < 512; i++) {
            Method method = face.get(next(face.size()));
            if (method.getName().equals("text") && texts && next(2) == 0) {
                String text = TEXTS[next(TEXTS.length)];
                Checks.feed(x, text);
                Checks.feed(twin, text);
            }
            Object[] arguments = arguments(method, texts);
            CHECKS.due(method.getName() + " twice", answer(x, method, arguments), answer(twin, method, arguments));
        }
    }

    private Object[] arguments(Method method, boolean texts) {
        Class<?>[] types = method.getParameterTypes();
        Object[] arguments = new Object[types.length];
        for (int i = 0; i < types.length; i++) {
            int number = next(3) == 0 ? EDGES[next(EDGES.length)] : next(next(2) == 0 ? 5 : 48);
            arguments[i] = types[i] == boolean.class ? (Object) (number % 2 == 0) : (Object) number;
        }
        if (method.getName().equals("text") && !texts) {
            arguments[0] = -1;
        }
        return arguments;
    }

    private static long answer(WardFalls x, Method method, Object[] arguments) throws IllegalAccessException {
        try {
            Object answer = method.invoke(x, arguments);
            return answer instanceof Boolean ? ((Boolean) answer ? 1 : 0) : ((Number) answer).longValue();
        } catch (InvocationTargetException e) {
            Class<?> thrown = e.getCause().getClass();
            boolean due = method.getName().equals("cell")
                    && (thrown == IndexOutOfBoundsException.class || thrown == NoSuchElementException.class);
            CHECKS.due(method.getName() + " throws " + e.getCause(), due, true);
            return thrown == IndexOutOfBoundsException.class ? -77 : -78;
        }
    }

    private int next(int bound) {
        number = number * 6364136223846793005L + 1442695040888963407L;
        return (int) ((number >>> 33) % bound);
    }
}
