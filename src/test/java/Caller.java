import java.lang.reflect.InvocationTargetException;
import java.lang.reflect.Method;
import java.nio.charset.StandardCharsets;
import java.util.Arrays;

/** Calls an object's methods by written words, "sell 0 500 true", and answers in writing, "20" or "throws.IllegalStateException". */
final class Caller {
    private final Object object;

    Caller(Object object) {
        this.object = object;
    }

    String ask(String words) {
        String[] parts = words.trim().split("\\s+");
        Method method = find(parts[0], parts.length - 1);
        Object[] args = new Object[parts.length - 1];
        for (int k = 0; k < args.length; k++) {
            String s = parts[k + 1];
            args[k] = s.equals("true") || s.equals("false") ? (Object) Boolean.valueOf(s) : (Object) Integer.valueOf(s);
        }
        try {
            method.setAccessible(true);
            Object answer = method.invoke(object, args);
            return answer == null ? "" : answer.toString();
        } catch (InvocationTargetException e) {
            return "throws." + e.getCause().getClass().getSimpleName();
        } catch (IllegalAccessException e) {
            throw new AssertionError(e);
        }
    }

    private Method find(String name, int arguments) {
        for (Method m : object.getClass().getDeclaredMethods()) {
            Class<?>[] p = m.getParameterTypes();
            boolean plain = Arrays.stream(p).allMatch(Class::isPrimitive);
            if (m.getName().equals(name) && p.length == arguments && plain) {
                return m;
            }
        }
        throw new AssertionError("no method " + name + " of " + arguments);
    }

    /** Puts a text, each sign a byte, on the tape. */
    void feedText(String text) {
        byte[] b = text.getBytes(StandardCharsets.ISO_8859_1);
        ask("end 0");
        for (int at = 0; at < b.length; at += 20) {
            StringBuilder words = new StringBuilder("feed");
            for (int k = 0; k < 5; k++) {
                int four = 0;
                for (int j = 0; j < 4; j++) {
                    int place = at + 4 * k + j;
                    four = four << 8 | (place < b.length ? b[place] & 255 : 0);
                }
                words.append(' ').append(four);
            }
            ask(words.toString());
        }
        ask("end " + b.length);
    }
}
