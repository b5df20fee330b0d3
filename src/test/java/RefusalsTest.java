import java.lang.reflect.Method;
import java.lang.reflect.Modifier;
import java.util.ArrayList;
import java.util.Arrays;
import java.util.List;
import java.util.function.Supplier;

/** No call may throw, whatever its arguments, and a refused call changes nothing (but the tape and the numbers that wait, where told). */
public final class RefusalsTest {
    private static final int[] VALUES = {Integer.MIN_VALUE, -1, 0, 1, 2, 8, 97, Integer.MAX_VALUE};
    private static final int[] FEW = {Integer.MIN_VALUE, 0, 1, 3, Integer.MAX_VALUE};
    private static final Due due = new Due();

    public static void main(String[] args) {
        for (Supplier<ChipFloor> state : List.<Supplier<ChipFloor>>of(States::fresh, States::some, States::full)) {
            List<List<Integer>> untouched = new ArrayList<>();
            for (View view : View.values()) {
                untouched.add(view.of(state.get()));
            }
            for (Method m : ChipFloor.class.getDeclaredMethods()) {
                if (Modifier.isPublic(m.getModifiers())) {
                    all(m, state, untouched);
                }
            }
        }
        due.end();
    }

    private static void all(Method m, Supplier<ChipFloor> state, List<List<Integer>> untouched) {
        int[] values = m.getParameterCount() > 3 ? FEW : VALUES;
        int many = (int) Math.pow(values.length, m.getParameterCount());
        for (int k = 0; k < many; k++) {
            int[] args = new int[m.getParameterCount()];
            int drawn = k;
            for (int i = 0; i < args.length; i++) {
                args[i] = values[drawn % values.length];
                drawn /= values.length;
            }
            one(m.getName(), args, state, untouched);
        }
    }

    private static void one(String name, int[] args, Supplier<ChipFloor> state, List<List<Integer>> untouched) {
        // a call that throws ends the test with what it threw
        int answer = Edges.call(state.get(), name, args);
        for (View view : View.values()) {
            if (isRefusal(answer) && !view.isUsedUpBy(name)) {
                ChipFloor x = state.get();
                String call = name + Arrays.toString(args);
                due.is(call + " again", Edges.call(x, name, args), answer);
                due.is(call + ": " + view + " stays", view.of(x).equals(untouched.get(view.ordinal())) ? 1 : 0, 1);
            }
        }
    }

    private static boolean isRefusal(int answer) {
        return answer <= ChipFloor.BAD && answer >= ChipFloor.SIZE;
    }
}
