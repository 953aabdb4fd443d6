import java.lang.reflect.InvocationTargetException;
import java.lang.reflect.Method;
import java.lang.reflect.Modifier;
import java.util.Arrays;
import java.util.List;
import java.util.Map;
import java.util.Set;
import java.util.function.Supplier;

/** Each call with all numbers from far outside, just outside and inside at once: none throws, each answer is counted. */
public final class OutsideTest {
    private static final Due DUE = new Due("OutsideTest");
    private static final int[] VALUES = {Integer.MIN_VALUE, -2, -1, 0, 1, 7, Integer.MAX_VALUE};
    // an object is used for 512 calls: 231 make the fullest river, each look takes nine at most
    private static final int CALLS_OF_ONE = 30;
    private static final Map<String, Long> OTHER_BAD = Map.of("at", -10L, "called", -10L, "boat", -10L, "way", -10L,
        "above", -10L, "fits", -10L, "flood", -100L, "status", -1L);
    private static final Set<String> NEVER_BAD = Set.of("undo", "clear", "read", "forget", "digest");
    private static final Set<String> AT_TIMES_NO = Set.of("undo", "from");
    private static final Set<String> AT_TIMES_FULL = Set.of("bridge", "say", "type", "note");

    private static long answerOf(BridgeNames x, Method call, Integer[] numbers) {
        try {
            return ((Number) call.invoke(x, (Object[]) numbers)).longValue();
        } catch (InvocationTargetException e) {
            DUE.holds(call.getName() + Arrays.toString(numbers) + " does not throw, but " + e.getCause(), false);
        } catch (IllegalAccessException e) {
            DUE.holds(call.getName() + " is open", false);
        }
        return 0;
    }

    /** Which of STATUS an answer counts in; -1 for none. */
    private static int reasonOf(String call, long answer) {
        if (!NEVER_BAD.contains(call) && answer == OTHER_BAD.getOrDefault(call, -2L)) {
            return 0;
        }
        if (AT_TIMES_NO.contains(call) && answer == -3) {
            return 1;
        }
        return AT_TIMES_FULL.contains(call) && answer == -4 ? 2 : -1;
    }

    private static void look(BridgeNames x, Method call, Integer[] numbers) {
        int[] were = {x.status(0), x.status(1), x.status(2)};
        long was = x.digest();
        long answer = answerOf(x, call, numbers);
        int reason = reasonOf(call.getName(), answer);
        String told = call.getName() + Arrays.toString(numbers) + " answered " + answer;
        if (reason >= 0) {
            DUE.is(told + ", then the digest", x.digest(), was);
        }
        for (int what = 0; what < 3; what++) {
            DUE.is(told + ", then status(" + what + ")", x.status(what) - were[what], what == reason ? 1 : 0);
        }
    }

    private static Integer[] numbersOf(int row, int many) {
        Integer[] numbers = new Integer[many];
        int left = row;
        for (int i = 0; i < many; i++) {
            numbers[i] = VALUES[left % VALUES.length];
            left /= VALUES.length;
        }
        return numbers;
    }

    private static void allOf(Method call, Supplier<BridgeNames> river) {
        int many = call.getParameterCount();
        int rows = (int) Math.pow(VALUES.length, many);
        BridgeNames x = river.get();
        for (int row = 0; row < rows; row++) {
            if (row % CALLS_OF_ONE == CALLS_OF_ONE - 1) {
                x = river.get();
            }
            look(x, call, numbersOf(row, many));
        }
    }

    public static void main(String[] args) {
        List<Supplier<BridgeNames>> rivers = List.of(Rivers::fresh, Rivers::busy, Rivers::full);
        int calls = 0;
        for (Method call : BridgeNames.class.getDeclaredMethods()) {
            if (Modifier.isPublic(call.getModifiers())) {
                calls++;
                for (Supplier<BridgeNames> river : rivers) {
                    allOf(call, river);
                }
            }
        }
        DUE.is("calls of the face", calls, 33);
        DUE.end();
    }
}
