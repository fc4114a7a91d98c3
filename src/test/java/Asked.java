import java.lang.reflect.InvocationTargetException;
import java.lang.reflect.Method;
import java.util.ArrayList;
import java.util.Arrays;
import java.util.HashMap;
import java.util.List;
import java.util.Map;

/** An object and the calls that it was asked, no more of them than the document promises answers for. */
final class Asked {
    static final int MOST_CALLS = 512;

    private static final Map<String, Method> FACE = face();

    private final GrandsireLoft loft;
    private final List<Call> calls;

    record Call(String name, int[] arguments) {
        @Override
        public String toString() {
            String list = Arrays.toString(arguments);
            return name + "(" + list.substring(1, list.length() - 1) + ")";
        }
    }

    Asked() {
        loft = new GrandsireLoft();
        calls = new ArrayList<>();
    }

    private static Map<String, Method> face() {
        Map<String, Method> face = new HashMap<>();
        for (Method method : GrandsireLoft.class.getMethods()) {
            if (method.getDeclaringClass() == GrandsireLoft.class) {
                face.put(method.getName(), method);
            }
        }
        return face;
    }

    List<Call> calls() {
        return List.copyOf(calls);
    }

    int callsLeft() {
        return MOST_CALLS - calls.size();
    }

    /** The answer of a call as a text; what it throws, behind "throws.". */
    String ask(String name, int... arguments) {
        if (callsLeft() == 0) {
            throw new IllegalStateException("a run of more calls than an object is used for");
        }
        calls.add(new Call(name, arguments));
        Object[] boxed = new Object[arguments.length];
        for (int at = 0; at < arguments.length; at++) {
            boxed[at] = arguments[at];
        }
        try {
            return told(FACE.get(name).invoke(loft, boxed));
        } catch (InvocationTargetException thrown) {
            Throwable cause = thrown.getCause();
            return "throws." + (Check.isThrownByTheLoft(cause) ? cause.getClass().getSimpleName() : "machine " + cause);
        } catch (IllegalAccessException hidden) {
            throw new AssertionError(hidden);
        }
    }

    private static String told(Object answer) {
        return answer instanceof Boolean ? (Boolean) answer ? "1" : "0" : answer.toString();
    }
}
