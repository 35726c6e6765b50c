import java.io.IOException;
import java.lang.reflect.InvocationTargetException;
import java.lang.reflect.Method;
import java.lang.reflect.Modifier;
import java.nio.charset.StandardCharsets;
import java.nio.file.Files;
import java.nio.file.Path;
import java.util.ArrayList;
import java.util.List;
import java.util.TreeSet;
import java.util.regex.Matcher;
import java.util.regex.Pattern;
import java.util.stream.Stream;

/** README.md holds as written: its examples are run line by line, and what it names is there. */
public final class ReadmeTest {
    private static final Pattern CALL = Pattern.compile("x\\.(\\w+)\\(([^)]*)\\);\\s*// (-?\\d+|true|false)(:.*)?");

    public static void main(String[] args) throws Exception {
        String page = Files.readString(Path.of("README.md"));
        examples(page);
        helper(page);
        everyCall(page);
        everyTest(page);
        Check.close("ReadmeTest");
    }

    private static List<String> blocks(String page, String kind) {
        List<String> found = new ArrayList<>();
        Matcher block = Pattern.compile("(?s)```" + kind + "\n(.*?)```").matcher(page);
        while (block.find()) {
            found.add(block.group(1));
        }
        return found;
    }

    private static boolean isHelper(String block) {
        return block.startsWith("static ");
    }

    // ---- the examples: one run ----

    private static void examples(String page) throws ReflectiveOperationException {
        GeeseSums x = null;
        int calls = 0;
        StringBuilder fed = new StringBuilder();
        for (String block : blocks(page, "java")) {
            for (String line : block.split("\n")) {
                Matcher call = CALL.matcher(line);
                if (isHelper(block)) {
                    break;
                } else if (line.equals("GeeseSums x = new GeeseSums();")) {
                    Check.due("one object", x == null, true);
                    x = new GeeseSums();
                } else if (call.matches() && x != null) {
                    int[] given = numbers(call.group(2));
                    Check.due(call.group(1) + "(" + call.group(2) + ")", answer(x, call.group(1), given).equals(call.group(3)), true);
                    if (call.group(1).equals("feed") && calls < 5) {
                        fed.append(text(given));
                    }
                    calls++;
                } else {
                    Check.due("a call with its answer: " + line, false, true);
                }
            }
        }
        Check.due("calls of the examples: " + calls, calls > 60 && calls <= 512, true);
        Check.due("the text that is fed", fed.toString().trim().equals(blocks(page, "text").get(0).trim()), true);
    }

    private static int[] numbers(String given) {
        if (given.isEmpty()) {
            return new int[0];
        }
        return Stream.of(given.split(", ")).mapToInt(Integer::decode).toArray();
    }

    private static String answer(GeeseSums x, String name, int[] given) throws ReflectiveOperationException {
        Class<?>[] types = new Class<?>[given.length];
        Object[] values = new Object[given.length];
        for (int i = 0; i < given.length; i++) {
            types[i] = int.class;
            values[i] = given[i];
        }
        try {
            return String.valueOf(GeeseSums.class.getMethod(name, types).invoke(x, values));
        } catch (InvocationTargetException thrown) {
            return "thrown: " + thrown.getCause();
        }
    }

    private static String text(int[] words) {
        byte[] bytes = new byte[4 * words.length];
        for (int i = 0; i < bytes.length; i++) {
            bytes[i] = (byte) (words[i / 4] >> 24 - 8 * (i % 4));
        }
        return new String(bytes, StandardCharsets.ISO_8859_1);
    }

    // ---- the function that tells a text ----

    /** The page's own, letter by letter: see helper(). */
    static int tell(GeeseSums x, String text) {
        x.end(0);
        for (int i = 0; i < text.length(); i += 20) {
            int[] five = new int[5];
            for (int k = 0; k < 20; k++) {
                int one = i + k < text.length() ? text.charAt(i + k) & 255 : ' ';
                five[k / 4] = five[k / 4] << 8 | one;
            }
            x.feed(five[0], five[1], five[2], five[3], five[4]);
        }
        x.end(text.length());
        return x.net();
    }

    private static void helper(String page) throws IOException {
        String here = Files.readString(Path.of("src/test/java/ReadmeTest.java"));
        String told = "";
        for (String block : blocks(page, "java")) {
            told = isHelper(block) ? block : told;
        }
        Check.due("the function stands here as there", here.contains(told.indent(4)) && told.length() > 100, true);
        GeeseSums x = new GeeseSums();
        String text = blocks(page, "text").get(0).trim();
        Check.due("tell() of the text", tell(x, text), 4);
        Check.due("so many claims", x.about(3), 1);
        StringBuilder full = new StringBuilder(text);
        while (full.length() < 1600) {
            full.append(' ');
        }
        Check.due("tell() of 1,600 bytes", tell(x, full.toString()), 4);
        Check.due("tell() of none", tell(x, ""), 0);
        Check.due("tell() of a fault at the end", tell(x, full.substring(0, 1599) + "?"), GeeseSums.NONE);
        Check.due("its place", x.fault(1), 1599);
    }

    // ---- what is named ----

    private static void everyCall(String page) {
        for (Method method : GeeseSums.class.getDeclaredMethods()) {
            if (Modifier.isPublic(method.getModifiers())) {
                Check.due("README.md names " + method.getName(), page.contains("`" + method.getName() + "`"), true);
                Check.due("an example calls " + method.getName(), page.contains("\nx." + method.getName() + "("), true);
            }
        }
    }

    private static void everyTest(String page) throws IOException {
        TreeSet<String> told = new TreeSet<>();
        Matcher row = Pattern.compile("(?m)^\\| `(\\w+)` \\| [^|]+ \\|$").matcher(page);
        while (row.find()) {
            if (row.group(1).endsWith("Test")) {
                told.add(row.group(1));
            }
        }
        TreeSet<String> there = new TreeSet<>();
        try (Stream<Path> files = Files.list(Path.of("src/test/java"))) {
            files.map(file -> file.getFileName().toString()).filter(name -> name.endsWith("Test.java"))
                .forEach(name -> there.add(name.replace(".java", "")));
        }
        Check.due("the tests that README.md tells " + told + " are those there " + there, told.equals(there), true);
        for (String command : blocks(page, "sh").get(0).split("\n")) {
            Check.due("a command of javac or java: " + command, command.matches("javac? .+"), true);
        }
    }
}
