import java.lang.reflect.InvocationTargetException;
import java.lang.reflect.Method;
import java.util.HashMap;
import java.util.Map;

/** Calls told as they are written, such as "pull(0, 100, 5)"; each can be made on the class and on the model. */
final class Script {
    private static final Map<String, Method> OF_CLASS = byNames(NumbersCalled.class);
    private static final Map<String, Method> OF_MODEL = byNames(Model.class);

    record Call(String name, Object[] in) {
        String told() {
            StringBuilder b = new StringBuilder(name).append('(');
            for (int i = 0; i < in.length; i++) {
                b.append(i == 0 ? "" : ", ").append(in[i]);
            }
            return b.append(')').toString();
        }

        long on(NumbersCalled x) {
            return answer(OF_CLASS, x);
        }

        long on(Model m) {
            return answer(OF_MODEL, m);
        }

        private long answer(Map<String, Method> methods, Object hall) {
            try {
                return ((Number) methods.get(name).invoke(hall, in)).longValue();
            } catch (InvocationTargetException e) {
                throw new IllegalStateException(told() + " threw", e.getCause());
            } catch (IllegalAccessException e) {
                throw new IllegalStateException(e);
            }
        }
    }

    private Script() {
    }

    private static Map<String, Method> byNames(Class<?> c) {
        Map<String, Method> all = new HashMap<>();
        for (Method m : c.getDeclaredMethods()) {
            all.put(m.getName(), m);
        }
        return all;
    }

    static Call call(String name, int... in) {
        Object[] all = new Object[in.length];
        for (int i = 0; i < in.length; i++) {
            all[i] = in[i];
        }
        return new Call(name, all);
    }

    static Call read(String told) {
        int open = told.indexOf('(');
        String in = told.substring(open + 1, told.length() - 1).trim();
        String[] numbers = in.isEmpty() ? new String[0] : in.split(" *, *");
        int[] all = new int[numbers.length];
        for (int i = 0; i < all.length; i++) {
            all[i] = Integer.parseInt(numbers[i]);
        }
        return call(told.substring(0, open), all);
    }

    /** The calls by which a text comes on the tape, five bytes each. */
    static Call[] feeds(String text) {
        Call[] all = new Call[(text.length() + 4) / 5];
        for (int i = 0; i < all.length; i++) {
            int[] in = new int[6];
            in[0] = Math.min(5, text.length() - 5 * i);
            for (int k = 0; k < in[0]; k++) {
                in[k + 1] = text.charAt(5 * i + k);
            }
            all[i] = call("feed", in);
        }
        return all;
    }
}
