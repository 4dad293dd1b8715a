import java.lang.reflect.InvocationTargetException;
import java.lang.reflect.Method;
import java.util.ArrayList;
import java.util.Comparator;
import java.util.List;
import java.util.Random;

/** Any calls by chance (of fixed seeds), any arguments: none throws, and the same calls answer the same. */
public final class WildTest {
    private static final int OBJECTS = 300;
    private static final int CALLS = 512;
    private static final int[] FAR = {Integer.MIN_VALUE, Integer.MIN_VALUE + 1, -1000, -2, -1, 60, 61, 600, 1 << 16,
        2000000000, 2000000001, Integer.MAX_VALUE - 1, Integer.MAX_VALUE};
    private static final String SMALL = "race steps 2 law 3 goal 5 odds 4; boat at 1 needs 1; boat at 0 needs 2;"
            + "watcher eyes 3 sees 0 to 1 on 1; show 2 at 1;";

    private WildTest() {
    }

    public static void main(String[] args) throws IllegalAccessException {
        List<Method> calls = new ArrayList<>();
        for (Method method : PennantLawn.class.getDeclaredMethods()) {
            if (java.lang.reflect.Modifier.isPublic(method.getModifiers())) {
                calls.add(method);
            }
        }
        calls.sort(Comparator.comparing(Method::getName));
        for (int i = 0; i < OBJECTS; i++) {
            Random random = new Random(i);
            PennantLawn x = new PennantLawn();
            PennantLawn same = new PennantLawn();
            String text = i % 10 == 0 ? "" : i % 3 == 0 ? SMALL : full(random);
            Check.race(x, text);
            Check.race(same, text);
            for (int k = 40; k < CALLS; k++) {
                Method call = calls.get(random.nextInt(calls.size()));
                if (call.getName().equals("race") && random.nextInt(4) > 0) {
                    continue;
                }
                Object[] wild = wild(call, random);
                String name = "object " + i + " " + call.getName() + java.util.Arrays.toString(wild);
                Check.due(name, answer(call, x, wild), answer(call, same, wild));
            }
        }
        Check.finish("WildTest");
    }

    private static long answer(Method call, PennantLawn lawn, Object[] wild) throws IllegalAccessException {
        try {
            return ((Number) call.invoke(lawn, wild)).longValue();
        } catch (InvocationTargetException e) {
            Check.holds(call.getName() + java.util.Arrays.toString(wild) + " throws " + e.getCause(), false);
            return 0;
        }
    }

    private static Object[] wild(Method call, Random random) {
        Class<?>[] types = call.getParameterTypes();
        Object[] wild = new Object[types.length];
        for (int i = 0; i < types.length; i++) {
            int far = random.nextInt(20) == 0 ? FAR[random.nextInt(FAR.length)] : random.nextInt(i == 2 ? 22 : 6);
            wild[i] = types[i] == long.class ? (Object) (long) far : (Object) far;
        }
        return wild;
    }

    private static String full(Random random) {
        int steps = random.nextBoolean() ? 20 : 1 + random.nextInt(6);
        StringBuilder text = new StringBuilder("race steps " + steps + " law " + random.nextInt(4)
                + " goal " + (1 + random.nextInt(60)) + " odds " + random.nextInt(11) + ";");
        for (int i = 0; i < 5; i++) {
            text.append("boat at " + random.nextInt(31) + " needs " + (1 + random.nextInt(9)) + ";");
        }
        for (int i = 0; i < 5; i++) {
            int first = random.nextInt(3);
            text.append("watcher eyes " + (1 + random.nextInt(9)) + " sees " + first + " to 4 on "
                    + (first + random.nextInt(5 - first)) + ";");
            text.append("show " + (1 + random.nextInt(9)) + " at " + random.nextInt(20) + ";");
        }
        return text.toString();
    }
}
