import java.io.IOException;
import java.lang.reflect.Field;
import java.lang.reflect.Method;
import java.lang.reflect.Modifier;
import java.nio.file.Files;
import java.nio.file.Path;
import java.util.ArrayList;
import java.util.List;
import java.util.TreeSet;
import java.util.regex.Matcher;
import java.util.regex.Pattern;

/** What of LANGUAGE.md and of the document's face can be looked at from outside. Run from the project's own directory. */
public final class LanguageTest {
    private static final String FACE = "block3 told2 as2 power2 rule2 net2 wire2 at2 whole1 stands2 move3 undo0 seed1 walk2 bound1 best2 touch2 hottest0"
        + " feed3 trim1 wish0 of2 missed0 stow0 stowed2 front0 sheet3 mark3 powers2 copy5 lay3 ask2 item2 rest2 tell1 check1 keep0 back0 count1";
    private static final String CONSTANTS = "BAD NO FULL SPENT NONE NOTHING KIND INDEX SIZE";
    /** The first line of a method or constructor of the class or of a class inside it. */
    private static final String HEAD = " {4}( {4})?(?!if |for |while |switch |do )[a-zA-Z].*\\) \\{";
    private static final Due due = new Due();

    public static void main(String[] args) throws IOException {
        face();
        classes();
        words(Files.readString(Path.of("src/main/java/ChipFloor.java")));
        due.end();
    }

    private static void face() {
        TreeSet<String> seen = new TreeSet<>();
        for (Method m : ChipFloor.class.getDeclaredMethods()) {
            if (!Modifier.isPrivate(m.getModifiers())) {
                boolean plain = Modifier.isPublic(m.getModifiers()) && !Modifier.isStatic(m.getModifiers()) && m.getReturnType() == int.class;
                due.is("rule 1: " + m, plain ? 1 : 0, 1);
                seen.add(m.getName() + m.getParameterCount());
            }
        }
        due.is("the face: " + seen, seen.equals(new TreeSet<>(List.of(FACE.split(" ")))) ? 1 : 0, 1);
        TreeSet<String> constants = new TreeSet<>();
        for (Field f : ChipFloor.class.getDeclaredFields()) {
            if (!Modifier.isPrivate(f.getModifiers())) {
                constants.add(f.getName());
            }
        }
        due.is("the constants: " + constants, constants.equals(new TreeSet<>(List.of(CONSTANTS.split(" ")))) ? 1 : 0, 1);
        due.is("rule 1: public and final", ChipFloor.class.getModifiers(), Modifier.PUBLIC | Modifier.FINAL);
    }

    private static void classes() {
        List<Class<?>> all = new ArrayList<>(List.of(ChipFloor.class.getDeclaredClasses()));
        for (Class<?> c : all) {
            due.is("rule 2: " + c + " is static", Modifier.isStatic(c.getModifiers()) && !Modifier.isPublic(c.getModifiers()) ? 1 : 0, 1);
        }
        all.add(ChipFloor.class);
        due.is("rule 11: " + all.size() + " classes", all.size() <= 12 ? 1 : 0, 1);
        for (Class<?> c : all) {
            int fields = 0;
            for (Field f : c.getDeclaredFields()) {
                boolean constant = Modifier.isStatic(f.getModifiers());
                fields += constant ? 0 : 1;
                due.is("rule 5: " + f, constant && !Modifier.isFinal(f.getModifiers()) ? 1 : 0, 0);
            }
            due.is("rule 11: fields of " + c, fields <= 20 ? 1 : 0, 1);
            for (Method m : c.getDeclaredMethods()) {
                due.is("rule 11: " + m, m.getParameterCount() <= 7 ? 1 : 0, 1);
                boolean borne = (" " + FACE.replaceAll("[0-9]", " ")).contains(" " + m.getName() + " ");
                due.is("rule 1: a name of the face: " + m, borne && c != ChipFloor.class ? 1 : 0, 0);
            }
        }
    }

    private static void words(String source) {
        String code = source.replaceAll("(?s)/\\*.*?\\*/", "").replaceAll("//[^\n]*", "");
        String[] none = {"\\bthrow\\b", "\\bthrows\\b", "\\btry\\b", "\\bcatch\\b", "\\bsynchronized\\b", "\\bassert\\b", "->", "::", "\\bimport\\b", "\\bpackage\\b",
            "\\bprotected\\b", "Exact\\b", "@", "\\bstatic\\s*\\{", "\\bequals\\b", "\\bhashCode\\b", "\\btoString\\b", "\\bObject\\b", "\\bvar\\b"};
        for (String word : none) {
            due.is("rules 2, 4, 6: " + word, Pattern.compile(word).matcher(code).find() ? 1 : 0, 0);
        }
        library(code);
        madeInConstructors(code.split("\n"));
        methodsAreShort(source.split("\n"));
        for (char c : source.toCharArray()) {
            if (c != '\n' && (c < 32 || c > 126)) {
                due.is("rule 4: a sign of the source", c, ' ');
            }
        }
    }

    /** Rule 4 lists functions of Integer, Long and Math; their constants don't stand there. */
    private static void library(String code) {
        Matcher used = Pattern.compile("\\b[A-Z][a-z]\\w*\\.\\w+\\(?").matcher(code);
        while (used.find()) {
            boolean listed = used.group().matches("(Math|Integer|Long)\\.[a-z]\\w*\\(|System\\.arraycopy\\(|Arrays\\.(copyOf|copyOfRange|fill)\\(");
            due.is("rule 4: " + used.group() + " is of the library's list", listed ? 1 : 0, 1);
        }
    }

    /** Rule 12, and the room that all calls share: no call makes an object; fields and constructors may. */
    private static void madeInConstructors(String[] lines) {
        String head = "";
        for (String line : lines) {
            if (line.matches(HEAD)) {
                head = line;
            }
            boolean made = Pattern.compile("\\bnew\\b").matcher(line).find();
            boolean inCall = !head.isEmpty() && !head.strip().matches("(public |private )?[A-Z]\\w*\\(.*");
            due.is("rule 12: made in a call: " + line.strip(), made && inCall ? 1 : 0, 0);
            if (line.equals(closeOf(head))) {
                head = "";
            }
        }
    }

    /** The last line of what has this first line. */
    private static String closeOf(String head) {
        return " ".repeat(head.length() - head.stripLeading().length()) + "}";
    }

    private static void methodsAreShort(String[] lines) {
        int begin = 0;
        String close = "";
        for (int i = 0; i < lines.length; i++) {
            if (lines[i].matches(HEAD)) {
                begin = i;
                close = closeOf(lines[i]);
            }
            if (lines[i].equals(close)) {
                due.is("rule 11: the method at line " + (begin + 1) + " is short", i - begin <= 60 ? 1 : 0, 1);
                close = "";
            }
        }
    }
}
