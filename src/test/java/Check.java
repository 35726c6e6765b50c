import java.lang.reflect.Method;
import java.nio.charset.StandardCharsets;
import java.util.ArrayList;
import java.util.List;

/** What all tests share: answers that are due, and texts fed as calls. */
final class Check {
    private static int passed = 0;
    private static int failed = 0;
    // The test that is run, told ahead of what answered otherwise.
    private static String where = "";

    private Check() {
    }

    /** Runs every static method without parameters whose name begins with a promise (p10..) or a heading of Terms (t2..). */
    static void edges(Class<?> tests) throws ReflectiveOperationException {
        List<Method> methods = new ArrayList<>();
        for (Method method : tests.getDeclaredMethods()) {
            if (method.getName().matches("(p\\d\\d|t\\d)[A-Z]\\w*") && method.getParameterCount() == 0) {
                methods.add(method);
            }
        }
        methods.sort((a, b) -> a.getName().compareTo(b.getName()));
        for (Method method : methods) {
            where = tests.getSimpleName() + "." + method.getName() + ": ";
            int before = passed + failed;
            method.invoke(null);
            due("asks for something", passed + failed > before, true);
        }
        where = "";
    }

    static void due(String what, long got, long want) {
        if (got == want) {
            passed++;
        } else {
            failed++;
            if (failed <= 50) {
                System.out.println(where + what + " answered " + got + ", due is " + want);
            }
        }
    }

    static void due(String what, boolean got, boolean want) {
        due(what, got ? 1 : 0, want ? 1 : 0);
    }

    /** The numbers that feed() takes for a text, the last of its twenties filled up with blanks. */
    static int[] words(String text) {
        byte[] bytes = text.getBytes(StandardCharsets.ISO_8859_1);
        int[] words = new int[(bytes.length + 19) / 20 * 5];
        for (int i = 0; i < words.length * 4; i++) {
            int one = i < bytes.length ? bytes[i] & 255 : 32;
            words[i / 4] = words[i / 4] << 8 | one;
        }
        return words;
    }

    /** Puts a text on an empty tape. */
    static void type(GeeseSums x, String text) {
        x.end(0);
        int[] w = words(text);
        for (int i = 0; i < w.length; i += 5) {
            x.feed(w[i], w[i + 1], w[i + 2], w[i + 3], w[i + 4]);
        }
        x.end(text.length());
    }

    static int net(GeeseSums x, String text) {
        type(x, text);
        return x.net();
    }

    /** A new object with a net without fault. */
    static GeeseSums on(String text) {
        GeeseSums x = new GeeseSums();
        if (net(x, text) < 0) {
            due("fault " + x.fault(0) + " at " + x.fault(1) + " of " + text, -1, 0);
        }
        return x;
    }

    /** What is due of a text: its fault and the fault's place. */
    static void fault(String text, int fault, int place) {
        GeeseSums x = new GeeseSums();
        int answer = net(x, text);
        due("fault(0) of [" + text + "]", x.fault(0), fault);
        due("fault(1) of [" + text + "]", x.fault(1), place);
        due("net() below 0 of [" + text + "]", answer < 0, fault != 0);
    }

    /** What is due to lie there. */
    static void lies(String what, GeeseSums x, int... want) {
        due(what + ": about(13)", x.about(13), want.length);
        for (int i = 0; i < want.length; i++) {
            due(what + ": lies(" + i + ")", x.lies(i), want[i]);
        }
        due(what + ": lies behind", x.lies(want.length), -1);
        due(what + ": lies(-1)", x.lies(-1), -1);
    }

    /** The closing line of a test; the program ends with 1 if an answer was not the one that is due. */
    static void close(String test) {
        System.out.println(test + ": " + passed + " passed, " + failed + " failed");
        if (failed > 0) {
            System.exit(1);
        }
    }
}
