import java.lang.reflect.Method;
import java.util.ArrayList;
import java.util.Arrays;
import java.util.HashMap;
import java.util.List;
import java.util.Map;

/** An object of the class and one of the model, called alike until an answer differs. */
final class Both {
    /** What later calls of an object answer is free. */
    static final int MOST_CALLS = 512;

    private static final Map<String, Method> OF_CLASS = methods(TopStreet.class), OF_MODEL = methods(Model.class);

    final Model m = new Model();
    private final TopStreet x = new TopStreet();
    private final List<String> told = new ArrayList<>();
    private boolean differs = false;

    boolean isOver() {
        return differs || told.size() >= MOST_CALLS;
    }

    int callsLeft() {
        return MOST_CALLS - told.size();
    }

    void call(String name, int... a) {
        if (isOver()) {
            return;
        }
        long want = answer(OF_MODEL, m, name, a);
        long got = answer(OF_CLASS, x, name, a);
        StringBuilder line = new StringBuilder(name).append(Arrays.toString(a)).append(" = ").append(got);
        if (want != got) {
            differs = true;
            line.append(", the model says ").append(want);
        }
        told.add(line.toString());
    }

    void feed(String text) {
        for (int i = 0; i < text.length(); i++) {
            call("feed", text.charAt(i));
        }
    }

    /** Counts it as one answer; tells all calls if one differed. */
    boolean judge(String what) {
        if (differs) {
            System.out.println(what + ":");
            told.forEach(System.out::println);
        }
        Due.is(what, 0, differs ? 1 : 0);
        return !differs;
    }

    private static Map<String, Method> methods(Class<?> of) {
        Map<String, Method> byName = new HashMap<>();
        for (Method one : of.getDeclaredMethods()) {
            byName.put(one.getName(), one);
        }
        return byName;
    }

    private static long answer(Map<String, Method> methods, Object of, String name, int[] a) {
        try {
            Object answer = methods.get(name).invoke(of, Arrays.stream(a).boxed().toArray());
            return ((Number) answer).longValue();
        } catch (ReflectiveOperationException e) {
            throw new IllegalStateException(name + Arrays.toString(a), e);
        }
    }
}
