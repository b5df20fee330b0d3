import java.lang.reflect.Method;
import java.lang.reflect.Modifier;
import java.util.ArrayList;
import java.util.List;

/** No call may throw, whatever its arguments, and a refused call changes nothing (but the tape and the numbers that wait, where told). */
public final class RefusalsTest {
    private static final int[] VALUES = {Integer.MIN_VALUE, -1, 0, 1, 2, 8, 97, Integer.MAX_VALUE};
    private static final int[] FEW = {Integer.MIN_VALUE, 0, 1, 3, Integer.MAX_VALUE};
    private static final Due due = new Due();

    public static void main(String[] args) throws Exception {
        for (int state = 0; state < 3; state++) {
            for (Method m : ChipFloor.class.getDeclaredMethods()) {
                if (Modifier.isPublic(m.getModifiers())) {
                    all(m, state);
                }
            }
        }
        due.end();
    }

    private static void all(Method m, int state) throws Exception {
        int[] values = m.getParameterCount() > 3 ? FEW : VALUES;
        List<Integer> untouched = leftOf(made(state), m.getName());
        int many = (int) Math.pow(values.length, m.getParameterCount());
        for (int k = 0; k < many; k++) {
            Object[] args = new Object[m.getParameterCount()];
            int drawn = k;
            for (int i = 0; i < args.length; i++) {
                args[i] = values[drawn % values.length];
                drawn /= values.length;
            }
            one(m, args, state, untouched);
        }
    }

    private static void one(Method m, Object[] args, int state, List<Integer> untouched) throws Exception {
        ChipFloor x = made(state);
        String call = m.getName() + java.util.Arrays.toString(args) + " in state " + state;
        int answer;
        try {
            answer = (Integer) m.invoke(x, args);
        } catch (java.lang.reflect.InvocationTargetException e) {
            due.is(call + " threw " + e.getCause() + " and", 1, 0);
            return;
        }
        if (isRefusal(answer)) {
            due.is(call + ": all stays", leftOf(x, m.getName()).equals(untouched) ? 1 : 0, 1);
        }
    }

    private static boolean isRefusal(int answer) {
        return answer <= ChipFloor.BAD && answer >= ChipFloor.SIZE;
    }

    /** State 0 is new, 1 has some of all, 2 is as full as it gets. */
    private static ChipFloor made(int state) {
        ChipFloor x = new ChipFloor();
        int many = state == 0 ? 0 : state == 1 ? 3 : 8;
        for (int i = 0; i < many; i++) {
            x.block(i % 6, 3 + i, 5);
            x.power(i, 2 * i + 1);
        }
        for (int i = 0; i < (state == 0 ? 0 : state == 1 ? 2 : 10); i++) {
            x.net(3 << i % 7, 1 + i % 9);
            Due.wish(x, i % 2 == 0 ? "all w" : "block " + i % 8 + " x > 3");
        }
        for (int i = 0; i < (state == 0 ? 0 : state == 1 ? 2 : 8); i++) {
            x.stow();
            x.power(0, 3 * i);
        }
        for (int i = 0; i < (state == 0 ? 0 : state == 1 ? 2 : 4); i++) {
            x.sheet(i, i % 3, state == 1 ? 3 : 24);
            x.mark(i, 0, 150 * i);
            x.lay(i, 1 + i % 3, i);
        }
        if (state > 0) {
            x.keep();
            x.move(4, 1, 0);
            x.move(3, 2, 0);
            x.move(0, 0, 1);
        }
        for (int i = 0; i < (state == 0 ? 0 : state == 1 ? 5 : 60); i++) {
            x.tell(i);
        }
        for (int i = 0; i < (state == 0 ? 0 : state == 1 ? 1 : 8); i++) {
            x.feed(0x616c6c20, 0x77202020, 0x20202020);
        }
        return x;
    }

    /** All that can be asked of an object, which is not used afterwards. */
    private static List<Integer> leftOf(ChipFloor x, String call) {
        List<Integer> all = new ArrayList<>();
        addLaying(x, all);
        for (int what = 0; what < 10; what++) {
            boolean mayChange = what == 7 && call.equals("check") || what == 8 && call.equals("wish");
            all.add(mayChange ? 0 : x.count(what));
        }
        for (int slot = 0; slot < 5; slot++) {
            all.add(x.ask(slot, 0));
            all.add(x.item(slot, 0));
            all.add(x.rest(slot, 1000));
            all.add(x.lay(slot, 0, 0));
        }
        for (int sheet = 0; sheet < 4; sheet++) {
            for (int place = 0; place < 25; place++) {
                all.add(x.mark(sheet, place, 0));
            }
        }
        for (int i = 0; i < 10; i++) {
            all.add(x.of(i, 3));
            all.add(x.stowed(i, 0));
            all.add(x.stowed(i, 1));
            all.add(x.stowed(i, 2));
        }
        for (int i = 0; i < 4; i++) {
            all.add(x.undo());
            all.add(x.whole(4));
        }
        all.add(x.back());
        addLaying(x, all);
        return all;
    }

    private static void addLaying(ChipFloor x, List<Integer> all) {
        for (int i = 0; i < 8; i++) {
            all.add(x.at(0, i));
            all.add(x.at(1, i));
            for (int what = 0; what < 15; what++) {
                all.add(x.told(i, what));
            }
        }
        for (int i = 0; i < 10; i++) {
            all.add(x.wire(i, 0));
        }
        all.add(x.whole(4));
        all.add(x.count(9));
    }
}
