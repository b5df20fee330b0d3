import java.lang.reflect.Field;
import java.lang.reflect.Method;
import java.lang.reflect.Modifier;
import java.nio.file.Files;
import java.nio.file.Path;
import java.util.regex.Matcher;
import java.util.regex.Pattern;

/** README.md tells how to use the class: its example is run, and its tables must name all of the face. Run from the project's own directory. */
public final class ReadmeTest {
    private static final Due due = new Due();

    public static void main(String[] args) throws Exception {
        String readme = Files.readString(Path.of("README.md"));
        example(readme);
        names(readme);
        due.end();
    }

    /** Each row of the example is a call on x with its answer behind it. */
    private static void example(String readme) throws ReflectiveOperationException {
        ChipFloor x = new ChipFloor();
        Matcher row = Pattern.compile("(?m)^x\\.(\\w+)\\((.*?)\\);(.*)$").matcher(readme);
        int rows = 0;
        while (row.find()) {
            Matcher answer = Pattern.compile(" +// (-?\\w+)(:.*)?").matcher(row.group(3));
            due.is(row.group() + " tells an answer", answer.matches() ? 1 : 0, 1);
            due.is(row.group(), Edges.call(x, row.group(1), numbers(row.group(2))), number(answer.group(1)));
            rows++;
        }
        due.is("the example has rows", rows > 0 ? 1 : 0, 1);
    }

    private static int[] numbers(String list) {
        if (list.isEmpty()) {
            return new int[0];
        }
        String[] parts = list.split(", ");
        int[] all = new int[parts.length];
        for (int i = 0; i < parts.length; i++) {
            all[i] = Integer.decode(parts[i]);
        }
        return all;
    }

    /** A number, or the name of a constant. */
    private static int number(String word) throws ReflectiveOperationException {
        return word.matches("-?[0-9]+") ? Integer.parseInt(word) : ChipFloor.class.getField(word).getInt(null);
    }

    private static void names(String readme) {
        for (Method m : ChipFloor.class.getDeclaredMethods()) {
            if (Modifier.isPublic(m.getModifiers())) {
                isInATable(readme, m.getName());
            }
        }
        for (Field f : ChipFloor.class.getFields()) {
            isInATable(readme, f.getName());
        }
    }

    private static void isInATable(String readme, String name) {
        boolean there = Pattern.compile("(?m)^\\|.*`" + name + "`").matcher(readme).find();
        due.is("README.md names " + name, there ? 1 : 0, 1);
    }
}
