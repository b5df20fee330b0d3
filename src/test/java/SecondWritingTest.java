import java.lang.reflect.Method;
import java.util.ArrayList;
import java.util.List;
import java.util.Random;

/** Runs of calls drawn by fixed seeds, made on the class and on Plain, which must answer alike. The first argument: how many runs. */
public final class SecondWritingTest {
    private static final String[] NAMES = {"block", "told", "as", "power", "rule", "net", "wire", "at", "whole", "stands", "move", "undo", "seed",
        "walk", "bound", "best", "touch", "hottest", "feed", "trim", "wish", "of", "missed", "stow", "stowed", "front", "sheet", "mark", "powers",
        "copy", "lay", "ask", "item", "rest", "tell", "check", "keep", "back", "count"};
    private static final int[] WEIGHTS = {6, 20, 2, 6, 3, 4, 5, 2, 8, 3, 20, 6, 1, 3, 2, 1, 4, 2, 1, 1, 12, 8, 3, 3, 4, 2, 5, 8, 5, 6, 7, 4, 5, 3, 3, 2, 2, 2, 4};
    private static final int[] EDGES = {Integer.MIN_VALUE, Integer.MAX_VALUE, -1, -2, 255, 256, 100, 99, 241, 1 << 16, 25, 24};
    private final List<String> trace = new ArrayList<>();
    private final Random random;
    private final ChipFloor floor = new ChipFloor();
    private final Plain plain = new Plain();
    private boolean parted;

    private SecondWritingTest(long seed) {
        random = new Random(seed);
    }

    public static void main(String[] args) throws Exception {
        int runs = args.length > 0 ? Integer.parseInt(args[0]) : 120;
        for (int run = 0; run < runs; run++) {
            SecondWritingTest test = new SecondWritingTest(run);
            test.run();
            if (test.parted) {
                System.out.println("run " + run + ":");
                test.trace.forEach(System.out::println);
                System.exit(1);
            }
        }
        System.out.println(runs + " runs answered alike");
    }

    private int call(String name, int... args) throws Exception {
        Class<?>[] types = new Class<?>[args.length];
        Object[] values = new Object[args.length];
        for (int i = 0; i < args.length; i++) {
            types[i] = int.class;
            values[i] = args[i];
        }
        Method one = ChipFloor.class.getDeclaredMethod(name, types);
        Method other = Plain.class.getDeclaredMethod(name, types);
        int got = (Integer) one.invoke(floor, values);
        int want = (Integer) other.invoke(plain, values);
        trace.add(name + java.util.Arrays.toString(args) + " answered " + got + (got == want ? "" : ", but the second writing " + want));
        parted |= got != want;
        return got;
    }

    private void run() throws Exception {
        int blocks = random.nextInt(9);
        for (int i = 0; i < blocks; i++) {
            call("block", random.nextInt(6), 1 + random.nextInt(9), 1 + random.nextInt(9));
        }
        int total = 0;
        for (int weight : WEIGHTS) {
            total += weight;
        }
        while (trace.size() < 500 && !parted) {
            int drawn = random.nextInt(total), k = 0;
            while (drawn >= WEIGHTS[k]) {
                drawn -= WEIGHTS[k++];
            }
            one(NAMES[k]);
        }
    }

    private void one(String name) throws Exception {
        if (name.equals("wish") && random.nextInt(8) != 0) {
            feedText(text());
        }
        if (name.equals("block") && random.nextInt(4) != 0) {
            return;
        }
        if (name.equals("walk") && random.nextInt(3) != 0) {
            call(name, 1 + random.nextInt(12), random.nextInt(60));
            return;
        }
        if (name.equals("check") && random.nextInt(2) == 0) {
            tellSteps();
        }
        for (Method m : ChipFloor.class.getDeclaredMethods()) {
            if (m.getName().equals(name) && java.lang.reflect.Modifier.isPublic(m.getModifiers())) {
                int[] args = new int[m.getParameterCount()];
                for (int i = 0; i < args.length; i++) {
                    args[i] = number(name, i);
                }
                call(name, args);
            }
        }
    }

    private int number(String name, int i) {
        if (random.nextInt(40) == 0) {
            return EDGES[random.nextInt(EDGES.length)];
        }
        if (name.equals("net") && i == 0) {
            return random.nextInt(256);
        }
        if (name.equals("power") && i == 1 || name.equals("mark") && i == 2 || name.equals("rule") && i == 1) {
            return random.nextInt(100);
        }
        if (name.equals("told") && i == 1 || name.equals("block") && i > 0) {
            return random.nextInt(16);
        }
        if (name.equals("sheet") && i == 2 || name.equals("trim")) {
            return random.nextInt(27) - 1;
        }
        if (name.equals("sheet") && i == 1) {
            return random.nextInt(4) - random.nextInt(2);
        }
        return random.nextInt(random.nextInt(4) == 0 ? 11 : 5) - (random.nextInt(20) == 0 ? 1 : 0);
    }

    /** Steps told rightly, by a second object that goes on from the image, but now and then for one. */
    private void tellSteps() throws Exception {
        if (plain.image == null || plain.image.blocks.isEmpty()) {
            return;
        }
        Plain other = new Plain();
        other.now = plain.image.like();
        int n = 1 + random.nextInt(6);
        for (int i = 0; i < n; i++) {
            call("tell", other.walk(1, 0) + (random.nextInt(25) == 0 ? 1 : 0));
        }
        call("check", n);
    }

    private void feedText(String text) throws Exception {
        call("trim", 0);
        for (int i = 0; i < text.length(); i += 12) {
            int[] v = new int[3];
            for (int k = 0; k < 12; k++) {
                v[k / 4] = v[k / 4] << 8 | (i + k < text.length() ? text.charAt(i + k) : 0);
            }
            call("feed", v);
        }
        call("trim", text.length());
    }

    private String text() {
        boolean all = random.nextBoolean();
        StringBuilder t = new StringBuilder(blanks() + (all ? "all" : "block " + random.nextInt(8)) + " " + e(all ? "whlu" : "xywhptg", random.nextInt(4)) + blanks());
        while (random.nextInt(3) == 0 && t.length() > 0) {
            int place = random.nextInt(t.length());
            String signs = "!()<=>+-*/&| 0129awxlbgk%A\u00e1";
            char c = signs.charAt(random.nextInt(signs.length()));
            if (random.nextBoolean()) {
                t.insert(place, c);
            } else if (random.nextBoolean()) {
                t.setCharAt(place, c);
            } else {
                t.deleteCharAt(place);
            }
        }
        return t.length() > 96 ? t.substring(0, 96) : t.toString();
    }

    private String blanks() {
        return " ".repeat(random.nextInt(3) == 0 ? random.nextInt(3) : 0);
    }

    private String e(String names, int depth) {
        int sort = random.nextInt(depth <= 0 ? 2 : 8);
        if (sort == 0) {
            return "" + names.charAt(random.nextInt(names.length()));
        }
        if (sort == 1) {
            return "" + random.nextInt(random.nextBoolean() ? 12 : 10000);
        }
        if (sort == 2) {
            return "!".repeat(1 + random.nextInt(random.nextInt(6) == 0 ? 9 : 2)) + e(names, depth - 1);
        }
        if (sort == 3) {
            int opens = 1 + random.nextInt(random.nextInt(6) == 0 ? 9 : 2);
            return "(".repeat(opens) + e(names, depth - 1) + ")".repeat(opens);
        }
        String signs = "<=>+-*/&|";
        return e(names, depth - 1) + blanks() + signs.charAt(random.nextInt(signs.length())) + blanks() + e(names, depth - 1);
    }
}
