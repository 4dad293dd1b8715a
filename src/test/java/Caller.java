import java.lang.reflect.InvocationTargetException;
import java.lang.reflect.Method;
import java.lang.reflect.Modifier;
import java.util.ArrayList;
import java.util.List;
import java.util.Map;
import java.util.TreeMap;

/**
 * One object and the calls made of it, told as texts: "place 0 4 = 6", or with one argument that runs,
 * "place 0 0..2 = 3 4 4" (one answer alone: all are that one). MIN and MAX are the least and the
 * greatest number of the argument's type. No object is asked more than the document allows.
 */
final class Caller {
    private static final int MOST_CALLS = 512;
    private static final Map<String, Method> METHODS = methods();

    private final String name;
    private final PennantLawn lawn = new PennantLawn();
    private int calls = 0;

    Caller(String name) {
        this.name = name;
    }

    /** A new object that has been told a RACE without FAULT. */
    static Caller of(String name, String race) {
        Caller caller = new Caller(name);
        Check.holds(name + " is told: " + race, caller.race(race) >= 0);
        return caller;
    }

    private static Map<String, Method> methods() {
        Map<String, Method> methods = new TreeMap<>();
        for (Method method : PennantLawn.class.getDeclaredMethods()) {
            if (Modifier.isPublic(method.getModifiers())) {
                methods.put(method.getName(), method);
            }
        }
        return methods;
    }

    static Iterable<String> methodNames() {
        return METHODS.keySet();
    }

    int callsMade() {
        return calls;
    }

    void feed(String text) {
        calls += Check.tell(lawn, text);
        Check.holds(name + " keeps to " + MOST_CALLS + " calls", calls <= MOST_CALLS);
    }

    long race(String text) {
        feed(text);
        return ask("race");
    }

    /** Numbers of one byte, in a new row of a SLOT. */
    void row(int slot, int... numbers) {
        due("row " + slot + " 0 " + numbers.length + " = 0");
        for (int i = 0; i < numbers.length; i++) {
            due("write " + slot + " " + i + " " + numbers[i] + " = 0");
        }
    }

    /** What can be seen of the object, in some 300 calls: two objects that answer alike are in one state. */
    List<Long> state() {
        List<Long> state = new ArrayList<>();
        see(state, "fault ", 2);
        see(state, "count ", 11);
        long steps = ask("count 0");
        for (int b = 0; b < ask("count 4"); b++) {
            see(state, "boat " + b + " ", 2);
            see(state, "place " + b + " ", steps + 1);
        }
        for (int w = 0; w < ask("count 5"); w++) {
            see(state, "watcher " + w + " ", 4);
            see(state, "on " + w + " ", steps + 1);
        }
        for (int s = 0; s < ask("count 6"); s++) {
            see(state, "show " + s + " ", 2);
        }
        see(state, "awake ", steps);
        see(state, "fits ", 4);
        return state;
    }

    private void see(List<Long> state, String call, long n) {
        for (int i = 0; i < n; i++) {
            state.add(ask(call + i));
        }
    }

    void due(String... rows) {
        for (String row : rows) {
            String[] sides = row.split(" = ");
            dueAll(sides[0].trim().split(" +"), sides[1].trim().split(" +"));
        }
    }

    private void dueAll(String[] call, String[] answers) {
        for (int k = 1; k < call.length; k++) {
            int dots = call[k].indexOf("..");
            if (dots > 0) {
                int from = Integer.parseInt(call[k].substring(0, dots));
                int to = Integer.parseInt(call[k].substring(dots + 2));
                int n = to - from + 1;
                Check.holds(name + " has answers for " + String.join(" ", call),
                        answers.length == 1 || answers.length == n);
                for (int i = 0; i < n; i++) {
                    String[] one = call.clone();
                    one[k] = String.valueOf(from + i);
                    dueOne(one, answers[answers.length == 1 ? 0 : i]);
                }
                return;
            }
        }
        dueOne(call, answers[0]);
    }

    private void dueOne(String[] call, String answer) {
        String told = String.join(" ", call);
        Check.due(name + ": " + told, ask(told), Long.parseLong(answer));
    }

    long ask(String call) {
        String[] words = call.split(" ");
        Method method = METHODS.get(words[0]);
        Class<?>[] types = method.getParameterTypes();
        Check.due(name + ": arguments of " + call, words.length - 1, types.length);
        Object[] arguments = new Object[types.length];
        for (int i = 0; i < types.length; i++) {
            arguments[i] = argument(words[i + 1], types[i] == long.class);
        }
        calls++;
        Check.holds(name + " keeps to " + MOST_CALLS + " calls", calls <= MOST_CALLS);
        try {
            return ((Number) method.invoke(lawn, arguments)).longValue();
        } catch (IllegalAccessException | InvocationTargetException e) {
            Check.holds(name + ": " + call + " throws " + e.getCause(), false);
            return 0;
        }
    }

    private static Object argument(String word, boolean wide) {
        boolean far = word.equals("MIN") || word.equals("MAX");
        if (wide) {
            return far ? word.equals("MIN") ? Long.MIN_VALUE : Long.MAX_VALUE : Long.parseLong(word);
        }
        return far ? word.equals("MIN") ? Integer.MIN_VALUE : Integer.MAX_VALUE : Integer.parseInt(word);
    }
}
