import java.lang.reflect.InvocationTargetException;
import java.lang.reflect.Method;
import java.lang.reflect.Modifier;
import java.util.ArrayList;
import java.util.Arrays;
import java.util.HashMap;
import java.util.List;
import java.util.Map;

/**
 * An object and a Model on which the same calls are made; what they answer is compared. When the object has had its
 * 512 calls, another one takes its place, on which all is done again that may have changed something.
 */
final class Pair {
    static final int MOST_CALLS = 512;

    // calls that change nothing
    static final List<String> ASKING = List.of("told", "find", "taken", "latest", "matches", "target", "clash", "step",
            "would", "spared", "drawn", "chance", "tells", "count");

    private static final Map<String, Method> OF_OBJECT = methods(TwoTreesAlike.class);
    private static final Map<String, Method> OF_MODEL = methods(Model.class);

    private record Change(String call, Object[] args) {
    }

    final Model model = new Model();
    private final String name;
    private final List<Change> changes = new ArrayList<>();
    private TwoTreesAlike object = new TwoTreesAlike();
    private int calls = 0;

    Pair(String name) {
        this.name = name;
    }

    private static Map<String, Method> methods(Class<?> of) {
        Map<String, Method> all = new HashMap<>();
        for (Method method : of.getDeclaredMethods()) {
            if (!Modifier.isPrivate(method.getModifiers()) && !Modifier.isStatic(method.getModifiers())) {
                all.put(method.getName(), method);
            }
        }
        return all;
    }

    int calls() {
        return calls;
    }

    /** Makes a call on both; answers what the object answered. */
    int call(String call, int... args) {
        Object[] boxed = Arrays.stream(args).boxed().toArray();
        if (calls == MOST_CALLS) {
            begin();
        }
        calls++;
        if (!ASKING.contains(call)) {
            changes.add(new Change(call, boxed));
        }
        int got = answer(OF_OBJECT.get(call), object, boxed);
        Check.is(name + ", call " + calls + ": " + call + Arrays.toString(args), got,
                answer(OF_MODEL.get(call), model, boxed));
        return got;
    }

    private void begin() {
        object = new TwoTreesAlike();
        for (Change change : changes) {
            answer(OF_OBJECT.get(change.call), object, change.args);
        }
        calls = changes.size();
        if (calls >= MOST_CALLS) {
            throw new IllegalStateException(name + ": too many changes for one object");
        }
    }

    private static int answer(Method method, Object on, Object[] args) {
        try {
            return (int) method.invoke(on, args);
        } catch (IllegalAccessException | InvocationTargetException e) {
            throw new IllegalStateException(method + " " + Arrays.toString(args), e);
        }
    }
}
