import java.lang.reflect.Method;
import java.util.ArrayList;
import java.util.Arrays;
import java.util.List;

/** A MeltPins and a PlainModel on which the same calls are made: each answer has to be the same. */
final class Pair {
    final MeltPins pins = new MeltPins();
    final PlainModel model = new PlainModel();
    private final List<String> trail = new ArrayList<>();

    int calls() {
        return trail.size();
    }

    /** One call on both; a difference ends the test. */
    long both(String name, Object... args) throws Exception {
        long got = call(pins, name, args);
        long due = call(model, name, args);
        trail.add(name + Arrays.toString(args) + " = " + due);
        if (got != due) {
            trail.forEach(System.out::println);
            System.out.println("MeltPins answered " + got + ", the model " + due);
            System.exit(1);
        }
        return got;
    }

    private static long call(Object on, String name, Object[] args) throws Exception {
        for (Method m : on.getClass().getMethods()) {
            if (m.getName().equals(name) && m.getDeclaringClass() == on.getClass()) {
                return ((Number) m.invoke(on, args)).longValue();
            }
        }
        throw new IllegalStateException(name);
    }
}
