import java.lang.reflect.Field;
import java.lang.reflect.Method;
import java.lang.reflect.Modifier;
import java.nio.file.Files;
import java.nio.file.Path;
import java.util.ArrayList;
import java.util.Arrays;
import java.util.List;
import java.util.TreeSet;
import java.util.regex.Matcher;
import java.util.regex.Pattern;

/** The rules of LANGUAGE.md that a program can look at: the face, words that are ruled out, sizes. */
public final class LanguageTest {
    private static final String FACE = "turtle2 told2 step2 as2 turns2 set3 push2 egg2 rule2 deal1 seed1 days1 leads0"
            + " wager3 wagerTold2 inherit2 pool0 pays2 behind3 toLaps1 meet2 colder2 stick2 paced3 fine1 feed3 trim1"
            + " text0 textTold2 why1 sheet3 mark3 pour1 reads1 copy5 lay3 ask2 item2 rest2 tell1 check1 keep0 back0 count1";
    private static final List<Class<?>> CONSTANT_TYPES = List.of(int.class, long.class, boolean.class, char.class, String.class,
            int[].class, long[].class, char[].class, byte[].class);
    /** What the class uses of the library that rule 4 lists; more of the list may come to it. */
    private static final List<String> LIBRARY = List.of("Math.max", "Math.min", "Math.abs", "Math.floorDiv", "Math.floorMod",
            "System.arraycopy", "length", "charAt", "indexOf");
    private static final String CONSTANTS = "BAD NO FULL NONE NOTHING KIND INDEX SIZE";

    public static void main(String[] args) throws Exception {
        face();
        classes();
        String text = Files.readString(Path.of("src/main/java/TurtleBet.java"));
        source(text);
        library(text);
        Due.end();
    }

    private static void face() {
        Due.isTrue("public and final", Modifier.isPublic(TurtleBet.class.getModifiers()) && Modifier.isFinal(TurtleBet.class.getModifiers()));
        TreeSet<String> methods = new TreeSet<>();
        for (Method m : TurtleBet.class.getDeclaredMethods()) {
            if (!Modifier.isPrivate(m.getModifiers())) {
                methods.add(m.getName() + m.getParameterCount());
                Due.isTrue(m + " answers an int", m.getReturnType() == int.class);
                Due.isTrue(m + " takes ints", Arrays.stream(m.getParameterTypes()).allMatch(t -> t == int.class));
            }
        }
        Due.isTrue("the methods: " + methods, methods.equals(new TreeSet<>(Arrays.asList(FACE.split(" ")))));
        TreeSet<String> fields = new TreeSet<>();
        for (Field f : TurtleBet.class.getDeclaredFields()) {
            if (!Modifier.isPrivate(f.getModifiers())) {
                fields.add(f.getName());
            }
        }
        Due.isTrue("the constants: " + fields, fields.equals(new TreeSet<>(Arrays.asList(CONSTANTS.split(" ")))));
        Due.due("constructors", TurtleBet.class.getConstructors().length, 1);
        Due.due("other constructors", TurtleBet.class.getDeclaredConstructors().length, 1);
    }

    private static void classes() {
        List<Class<?>> all = new ArrayList<>(Arrays.asList(TurtleBet.class.getDeclaredClasses()));
        all.add(TurtleBet.class);
        Due.isTrue("twelve classes at most", all.size() <= 12);
        for (Class<?> one : all) {
            Due.isTrue(one + " is static", one == TurtleBet.class || Modifier.isStatic(one.getModifiers()));
            int fields = 0;
            for (Field f : one.getDeclaredFields()) {
                boolean isStatic = Modifier.isStatic(f.getModifiers());
                fields += isStatic ? 0 : 1;
                Due.isTrue(f + " is final", !isStatic || Modifier.isFinal(f.getModifiers()));
                Due.isTrue(f + " is a constant", !isStatic || CONSTANT_TYPES.contains(f.getType()));
            }
            Due.isTrue(one + " has twenty fields at most", fields <= 20);
            for (Method m : one.getDeclaredMethods()) {
                Due.isTrue(m + " takes seven at most", m.getParameterCount() <= 7);
                boolean named = (" " + FACE).matches(".* " + m.getName() + "\\d .*|.* " + m.getName() + "\\d");
                Due.isTrue(m + " bears a public name", !named || one == TurtleBet.class && Modifier.isPublic(m.getModifiers()));
            }
        }
    }

    private static String code(String text) {
        return text.replaceAll("(?s)/\\*.*?\\*/", "").replaceAll("//[^\n]*", "").replaceAll("\"[^\"\n]*\"", "\"\"");
    }

    /** Every call with a dot and every new is one of an own class, or stands in the library's list. */
    private static void library(String text) {
        TreeSet<String> own = new TreeSet<>();
        TreeSet<String> made = new TreeSet<>(List.of("int"));
        for (Class<?> one : TurtleBet.class.getDeclaredClasses()) {
            made.add(one.getSimpleName());
            for (Method m : one.getDeclaredMethods()) {
                own.add(m.getName());
            }
        }
        Matcher call = Pattern.compile("(\\w*)\\.(\\w+)\\(").matcher(code(text));
        while (call.find()) {
            boolean ofClass = call.group(1).matches("[A-Z].*");
            String name = ofClass ? call.group(1) + "." + call.group(2) : call.group(2);
            Due.isTrue("not in the list: " + name, own.contains(name) || LIBRARY.contains(name));
        }
        Matcher making = Pattern.compile("\\bnew (\\w+)").matcher(code(text));
        while (making.find()) {
            Due.isTrue("not to be made: " + making.group(1), made.contains(making.group(1)));
        }
    }

    private static void source(String text) {
        String code = code(text);
        Matcher banned = Pattern.compile("\\b(throw|throws|try|catch|finally|synchronized|assert|package|import|volatile|native"
                + "|equals|hashCode|toString|double|float|Exact|Random|Thread)\\b|->|::").matcher(code);
        while (banned.find()) {
            Due.isTrue("ruled out: " + banned.group(), false);
        }
        int depth = 0;
        int since = 0;
        int line = 0;
        for (String row : text.split("\n")) {
            line++;
            Due.isTrue("line " + line + " is of plain signs, 100 at most", row.length() <= 100 && row.chars().allMatch(c -> c >= 32 && c < 127));
            boolean opens = row.matches(" +(public|private|static|final|int|boolean|void|String|Text|[A-Z]\\w+).*\\(.*\\) \\{");
            if (opens && !row.contains(" class ")) {
                since = line;
                depth = row.indexOf(row.trim());
            }
            if (since > 0 && row.equals(" ".repeat(depth) + "}")) {
                Due.isTrue("the method at line " + since + " has sixty lines at most", line - since < 60);
                since = 0;
            }
        }
    }
}
