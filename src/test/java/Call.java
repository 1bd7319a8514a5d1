import java.lang.reflect.Method;
import java.util.Map;
import java.util.Set;

/** A call of the program as an edge tells it: "road(0, 1, 8)". */
final class Call {
    private static final Set<String> CHANGING = Set.of("road", "walker", "say", "wipe", "done", "seen", "forget", "image", "restore");
    private static final long LOST = -1000000000000000000L;
    private static final Map<String, Long> NAMES = Map.ofEntries(
        Map.entry("NONE", -6L), Map.entry("NO", -5L), Map.entry("FULL", -4L), Map.entry("STATE", -3L),
        Map.entry("OUTSIDE", -2L), Map.entry("UNKNOWN", -1L), Map.entry("LOST_OUTSIDE", LOST - 2),
        Map.entry("MIN", (long) Integer.MIN_VALUE), Map.entry("MAX", (long) Integer.MAX_VALUE));

    private final String text;
    private final Method method;
    private final Object[] values;

    Call(String text) {
        this.text = text;
        int open = text.indexOf('(');
        if (open < 0 || !text.endsWith(")")) throw new IllegalArgumentException("not a call: " + text);
        String inside = text.substring(open + 1, text.length() - 1).trim();
        String[] told = inside.isEmpty() ? new String[0] : inside.split(",");
        method = methodOf(text.substring(0, open), told.length);
        values = new Object[told.length];
        for (int i = 0; i < told.length; i++) values[i] = value(told[i].trim(), method.getParameterTypes()[i]);
    }

    private static Method methodOf(String name, int values) {
        for (Method m : RoadCobblers.class.getMethods()) {
            boolean ofTheFace = m.getDeclaringClass() == RoadCobblers.class;
            if (ofTheFace && m.getName().equals(name) && m.getParameterCount() == values) return m;
        }
        throw new IllegalArgumentException("no such call: " + name + " with " + values);
    }

    private static Object value(String told, Class<?> type) {
        if (type == boolean.class) return told.equals("true");
        return (int) number(told);
    }

    static long number(String told) {
        Long named = NAMES.get(told);
        return named != null ? named : Long.parseLong(told);
    }

    /** Whether an answer is UNKNOWN, OUTSIDE, STATE, FULL or NO, as it is or with LOST; NONE is an answer. */
    static boolean isRefusal(long answer) {
        return answer <= -1 && answer >= -5 || answer <= LOST - 1 && answer >= LOST - 5;
    }

    boolean mayChange() {
        return CHANGING.contains(method.getName());
    }

    long on(RoadCobblers x) {
        try {
            return ((Number) method.invoke(x, values)).longValue();
        } catch (ReflectiveOperationException e) {
            throw new IllegalStateException(text, e);
        }
    }

    @Override
    public String toString() {
        return text;
    }
}
