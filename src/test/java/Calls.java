import java.lang.reflect.Method;
import java.lang.reflect.Modifier;
import java.util.Arrays;
import java.util.Map;
import java.util.TreeMap;
import java.util.regex.Matcher;
import java.util.regex.Pattern;

/** Calls told as words, such as "paper(0, 4, 3)"; "read(..)" feeds the bytes of a text and then calls text(). */
final class Calls {
    private static final Pattern CALL = Pattern.compile("(?s)(\\w+)\\((.*)\\)");
    private static final Map<String, Method> FACE = face();

    private Calls() {
    }

    private static Map<String, Method> face() {
        Map<String, Method> face = new TreeMap<>();
        for (Method m : OppositionInBaskets.class.getDeclaredMethods()) {
            if (Modifier.isPublic(m.getModifiers())) {
                face.put(m.getName(), m);
            }
        }
        return face;
    }

    /** The public methods by their names, of which the document has no two alike. */
    static Map<String, Method> methods() {
        return FACE;
    }

    static long answer(OppositionInBaskets x, String call) {
        Matcher m = CALL.matcher(call);
        if (!m.matches()) {
            throw new IllegalArgumentException("no call: " + call);
        }
        if (m.group(1).equals("read")) {
            return Due.read(x, m.group(2));
        }
        Method method = FACE.get(m.group(1));
        if (method == null) {
            throw new IllegalArgumentException("no such method: " + call);
        }
        String[] words = m.group(2).isBlank() ? new String[0] : m.group(2).split(",");
        Object[] numbers = Arrays.stream(words).map(w -> number(w.trim())).toArray();
        try {
            return ((Number) method.invoke(x, numbers)).longValue();
        } catch (ReflectiveOperationException e) {
            throw new IllegalStateException(call, e);
        }
    }

    /** How many calls of the object an answer takes. */
    static int taken(String call) {
        Matcher m = CALL.matcher(call);
        return m.matches() && m.group(1).equals("read") ? m.group(2).length() + 1 : 1;
    }

    private static int number(String word) {
        return word.equals("MIN") ? Integer.MIN_VALUE : word.equals("MAX") ? Integer.MAX_VALUE : Integer.parseInt(word);
    }
}
