import java.io.IOException;
import java.lang.reflect.Constructor;
import java.lang.reflect.Field;
import java.lang.reflect.Method;
import java.lang.reflect.Modifier;
import java.nio.file.Files;
import java.nio.file.Path;
import java.util.Arrays;
import java.util.List;
import java.util.Map;
import java.util.Set;
import java.util.TreeSet;

/** The public face is the document's and no more; the text keeps to the rules of the language that a text shows. */
public final class FaceTest {
    private static final Set<String> FACE = new TreeSet<>(List.of(
        "int road(int, int, int)", "int walker(int, int, boolean)", "int say(int)", "int wipe()", "int fault()",
        "int judge(int)", "int done()", "int behind(int, int)", "int goes(int, int)", "int then(int)",
        "int way(int, int, int)", "int parts(int)", "int strokes()", "int mended(int, int, int)",
        "long pays(int, int, int, int)", "int seen(boolean, int, int)", "int forget()", "int who(int)", "int ask(int)",
        "int tacks(int, int, int)", "long wet(int, int, int, int, int)", "int year(int, int, int)", "int image(int)",
        "int restore(int)", "int told(int)"));
    private static final Map<String, Long> CONSTANTS = Map.of("NONE", -6L, "UNKNOWN", -1L, "OUTSIDE", -2L, "STATE", -3L,
        "FULL", -4L, "NO", -5L, "LOST", -1000000000000000000L);
    private static final List<String> NOT_ALLOWED = List.of("try", "catch", "throw", "finally", "synchronized", "assert",
        "lambda", "System", "Math.random", "Random", "Object", "toString", "hashCode", "double", "float");

    private static void methods() {
        Set<String> found = new TreeSet<>();
        Set<String> names = new TreeSet<>();
        for (Method m : RoadCobblers.class.getDeclaredMethods()) {
            if (Modifier.isPublic(m.getModifiers())) {
                found.add(signature(m));
                names.add(m.getName());
            } else {
                Due.isTrue("private: " + m, Modifier.isPrivate(m.getModifiers()));
            }
        }
        Due.isTrue("the face's methods: " + found, found.equals(FACE));
        for (Method m : RoadCobblers.class.getDeclaredMethods()) notAPublicName(m, names);
        for (Class<?> c : RoadCobblers.class.getDeclaredClasses()) {
            for (Method m : c.getDeclaredMethods()) notAPublicName(m, names);
        }
    }

    private static void notAPublicName(Method m, Set<String> names) {
        boolean ofTheFace = Modifier.isPublic(m.getModifiers());
        Due.isTrue("a name of its own: " + m, ofTheFace || !names.contains(m.getName()));
    }

    private static String signature(Method m) {
        String types = Arrays.toString(m.getParameterTypes());
        return m.getReturnType() + " " + m.getName() + "(" + types.substring(1, types.length() - 1) + ")";
    }

    private static void fields() throws IllegalAccessException {
        int open = 0;
        int own = 0;
        for (Field f : RoadCobblers.class.getDeclaredFields()) {
            int m = f.getModifiers();
            if (!Modifier.isStatic(m)) own++;
            Due.isTrue("final if static: " + f, !Modifier.isStatic(m) || Modifier.isFinal(m));
            if (!Modifier.isPublic(m)) {
                Due.isTrue("private: " + f, Modifier.isPrivate(m));
                continue;
            }
            open++;
            Due.is(f.getName(), ((Number) f.get(null)).longValue(), CONSTANTS.getOrDefault(f.getName(), 1L));
            Due.isTrue("type of " + f, f.getType() == (f.getName().equals("LOST") ? long.class : int.class));
        }
        Due.is("constants", open, CONSTANTS.size());
        Due.isTrue("some twenty fields: " + own, own <= 20);
    }

    private static void shape() {
        Due.isTrue("final", Modifier.isFinal(RoadCobblers.class.getModifiers()));
        Due.isTrue("public", Modifier.isPublic(RoadCobblers.class.getModifiers()));
        Constructor<?>[] all = RoadCobblers.class.getDeclaredConstructors();
        Due.is("constructors", all.length, 1);
        Due.isTrue("a public one", Modifier.isPublic(all[0].getModifiers()) && all[0].getParameterCount() == 0);
        Class<?>[] inside = RoadCobblers.class.getDeclaredClasses();
        Due.isTrue("some twelve classes", inside.length <= 11);
        for (Class<?> c : inside) {
            Due.isTrue("private or package-visible: " + c, !Modifier.isPublic(c.getModifiers()) && !Modifier.isProtected(c.getModifiers()));
            Due.isTrue("static: " + c, Modifier.isStatic(c.getModifiers()));
        }
    }

    private static void text(String file) throws IOException {
        String text = Files.readString(Path.of(file));
        for (char c : text.toCharArray()) if (c > 126) Due.is("a sign of the text", c, '?');
        String bare = text.replaceAll("(?s)/\\*.*?\\*/", " ").replaceAll("//[^\n]*", " ");
        for (String word : NOT_ALLOWED) {
            Due.isTrue("no " + word, !bare.matches("(?s).*\\b" + word.replace(".", "\\.") + "\\b.*"));
        }
        Due.isTrue("no arrow, no method reference, no text", !bare.contains("->") && !bare.contains("::") && !bare.contains("\""));
        for (String line : bare.split("\n")) {
            if (line.startsWith("import")) Due.isTrue(line, line.equals("import java.util.Arrays;"));
        }
    }

    public static void main(String[] args) throws IOException, IllegalAccessException {
        methods();
        fields();
        shape();
        Due.isTrue("the program's file is told", args.length > 0);
        text(args[0]);
        Due.end();
    }
}
