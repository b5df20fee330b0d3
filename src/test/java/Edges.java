import java.io.IOException;
import java.lang.reflect.InvocationTargetException;
import java.lang.reflect.Method;
import java.nio.file.Files;
import java.nio.file.Path;
import java.util.Arrays;
import java.util.List;
import java.util.function.Supplier;

/** Holds the class against the document's sentences: each is said in its own words, under the number of its promise, ahead of the calls that it is held against. */
final class Edges {
    static final int LEAST = Integer.MIN_VALUE, MOST = Integer.MAX_VALUE;
    private static final int PROMISES = 40;
    private static final String SAID = "\n";

    private final String document;
    private final StringBuilder unsaid;
    private final int[] sentences = new int[PROMISES + 1];
    private String said = "";
    private int askedOfIt = 1;
    private int asked;
    private int wrong;

    Edges(Path file) throws IOException {
        document = sentencesOf(Files.readString(file));
        unsaid = new StringBuilder(document);
    }

    /** The document as one line, without what frames its sentences: fences, parts' numbers, headings, the calls' own lines. */
    private static String sentencesOf(String text) {
        String frames = "```[a-z]*|={8} [0-9] |## Promise .*|`(int |ChipFloor\\().*?`:|Ahead of the calls .*";
        return text.replaceAll(frames, " ").replaceAll("\\s+", " ");
    }

    /** What follows is held against these words, which must stand in the document. */
    void says(int promise, String words) {
        endSentence();
        said = "promise " + promise + ", \"" + words + "\": ";
        sentences[promise]++;
        askedOfIt = 0;
        if (!document.contains(words)) {
            fail("the document does not say so");
        }
        for (int at = document.indexOf(words); at >= 0; at = document.indexOf(words, at + 1)) {
            unsaid.replace(at, at + words.length(), SAID.repeat(words.length()));
        }
    }

    /** What the document promises from its terms on must all have been said. */
    private void leaveNothingUnsaid() {
        said = "";
        String promised = unsaid.substring(document.indexOf("## Terms") + "## Terms".length(), document.indexOf("## Not promised"));
        for (String left : promised.split(SAID)) {
            if (left.matches(".*[a-zA-Z0-9].*")) {
                fail("the document says what no test says: " + left);
            }
        }
    }

    void is(String what, long got, long want) {
        asked++;
        askedOfIt++;
        if (got != want) {
            fail(what + " answered " + got + ", due is " + want);
        }
    }

    void due(int want, ChipFloor x, String name, int... args) {
        is(name + Arrays.toString(args), call(x, name, args), want);
    }

    /** The call is refused with that answer, and all that can be seen of the object is as if it had not been made. */
    void refused(int want, Supplier<ChipFloor> made, String name, int... args) {
        for (View view : View.values()) {
            ChipFloor x = made.get();
            due(want, x, name, args);
            if (view.isUsedUpBy(name)) {
                is("behind " + name + Arrays.toString(args) + " what it uses up", view.left(x), 0);
            } else {
                List<Integer> left = view.of(x);
                boolean alike = left.equals(view.of(made.get()));
                is("behind " + name + Arrays.toString(args) + " whether " + view + " is as ahead of it", alike ? 1 : 0, 1);
            }
        }
    }

    void refusedInAllStates(int want, String name, int... args) {
        refused(want, States::fresh, name, args);
        refused(want, States::some, name, args);
        refused(want, States::full, name, args);
    }

    void end() {
        endSentence();
        leaveNothingUnsaid();
        int all = 0;
        for (int promise = 1; promise <= PROMISES; promise++) {
            all += sentences[promise];
            if (sentences[promise] == 0) {
                fail("nothing is said of promise " + promise);
            }
        }
        System.out.println(wrong == 0 ? all + " sentences hold in " + asked + " answers" : wrong + " of " + asked + " answers are not as due");
        if (wrong != 0) {
            System.exit(1);
        }
    }

    private void endSentence() {
        if (askedOfIt == 0) {
            fail("nothing is asked of it");
        }
    }

    private void fail(String why) {
        wrong++;
        if (wrong <= 50) {
            System.out.println(said + why);
        }
    }

    static int call(ChipFloor x, String name, int... args) {
        Class<?>[] types = new Class<?>[args.length];
        Object[] values = new Object[args.length];
        for (int i = 0; i < args.length; i++) {
            types[i] = int.class;
            values[i] = args[i];
        }
        try {
            Method method = ChipFloor.class.getMethod(name, types);
            return (Integer) method.invoke(x, values);
        } catch (InvocationTargetException e) {
            throw new IllegalStateException(name + Arrays.toString(args) + " threw", e.getCause());
        } catch (ReflectiveOperationException e) {
            throw new IllegalStateException(e);
        }
    }

    /** An object with blocks, each told by kind, a and b. */
    static ChipFloor with(int... blocks) {
        ChipFloor x = new ChipFloor();
        for (int i = 0; i + 2 < blocks.length; i += 3) {
            x.block(blocks[i], blocks[i + 1], blocks[i + 2]);
        }
        return x;
    }

    /** The object with this text, and nothing else, on its tape. */
    static ChipFloor taped(ChipFloor x, String text) {
        x.trim(0);
        Due.tape(x, text);
        return x;
    }
}
