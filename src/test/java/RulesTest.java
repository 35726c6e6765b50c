import java.io.IOException;
import java.lang.reflect.Array;
import java.lang.reflect.Constructor;
import java.lang.reflect.Field;
import java.lang.reflect.Method;
import java.lang.reflect.Modifier;
import java.nio.file.Files;
import java.nio.file.Path;
import java.util.ArrayList;
import java.util.IdentityHashMap;
import java.util.List;
import java.util.Map;
import java.util.Random;
import java.util.TreeSet;
import java.util.regex.Matcher;
import java.util.regex.Pattern;

/** The face; what can be seen in the source of LANGUAGE.md's rules; no call throws; what an object takes of the room. */
public final class RulesTest {
    private static final String FACE = "feed(int,int,int,int,int):int end(int):int net():int fault(int):int tower(int,int):int "
        + "way(int,int):int flock(int,int):int geese(int):int begin(int,int):int beats(int):int gust():int undo():boolean "
        + "redo():boolean row(int,int):int reckon(int,int):int still():int says(int):int wrong(int,int,int):int "
        + "against(int,int,int):int mend(int,int,int):int loss(int,int,int,int):int blind(int,int):int "
        + "adds(int,int,int,int,int):int paths(int,int,int):int meet(int,int,int):int spread(int,int):int ring():int "
        + "pair(int,int):int hush():int chain():int lies(int):int sight(int,int,int):int untell(int):boolean later(int):int "
        + "begun(int,int):int sure(int,int,int):int image(int):int back(int):int about(int):int";

    public static void main(String[] args) throws Exception {
        face();
        source();
        wildCalls();
        room();
        edges();
        Check.close("RulesTest");
    }

    // ---- rule 1 ----

    private static void face() {
        TreeSet<String> want = new TreeSet<>(List.of(FACE.split(" ")));
        TreeSet<String> got = new TreeSet<>();
        for (Method method : GeeseSums.class.getDeclaredMethods()) {
            if (Modifier.isPublic(method.getModifiers())) {
                List<String> types = new ArrayList<>();
                for (Class<?> type : method.getParameterTypes()) {
                    types.add(type.getSimpleName());
                }
                got.add(method.getName() + "(" + String.join(",", types) + "):" + method.getReturnType().getSimpleName());
            } else {
                Check.due(method.getName() + " is private", Modifier.isPrivate(method.getModifiers()), true);
            }
        }
        Check.due("the face " + got, got.equals(want), true);
        Check.due("39 methods", got.size(), 39);
        for (Field field : GeeseSums.class.getDeclaredFields()) {
            boolean isNone = field.getName().equals("NONE");
            Check.due(field.getName() + " is public", Modifier.isPublic(field.getModifiers()), isNone);
            Check.due(field.getName() + " is private", Modifier.isPrivate(field.getModifiers()), !isNone);
        }
        Constructor<?>[] all = GeeseSums.class.getDeclaredConstructors();
        Check.due("one constructor", all.length, 1);
        Check.due("without parameters", all[0].getParameterCount(), 0);
        Check.due("a final class", Modifier.isFinal(GeeseSums.class.getModifiers()), true);
        Class<?>[] inside = GeeseSums.class.getDeclaredClasses();
        Check.due("some twelve classes", inside.length + 1 <= 12, true);
        for (Class<?> one : inside) {
            Check.due(one + " is static", Modifier.isStatic(one.getModifiers()), true);
            Check.due(one + " is not public", Modifier.isPublic(one.getModifiers()) || Modifier.isProtected(one.getModifiers()), false);
            int fields = 0;
            for (Field field : one.getDeclaredFields()) {
                fields += Modifier.isStatic(field.getModifiers()) ? 0 : 1;
                Check.due("static " + field + " is final", !Modifier.isStatic(field.getModifiers()) || Modifier.isFinal(field.getModifiers()), true);
            }
            Check.due(one + " has some twenty fields", fields <= 20, true);
            for (Method method : one.getDeclaredMethods()) {
                Check.due(method + " bears no public name", want.stream().anyMatch(m -> m.startsWith(method.getName() + "(")), false);
            }
        }
    }

    // ---- rules 2 to 11, as far as letters show them ----

    private static void source() throws IOException {
        String all = Files.readString(Path.of("src/main/java/GeeseSums.java"));
        Check.due("plain letters", all.chars().allMatch(c -> c == '\n' || c >= 32 && c < 127), true);
        String code = all.replaceAll("(?s)/\\*.*?\\*/", "").replaceAll("//[^\n]*", "").replaceAll("\"[^\"\n]*\"", "\"\"");
        Check.due("no texts joined by +", Pattern.compile("\"\\s*\\+|\\+\\s*\"").matcher(code).find(), false);
        for (String word : "Random Thread Runtime Process File Date Instant Object Iterator Collections float double".split(" ")) {
            Check.due("no " + word, Pattern.compile("\\b" + word + "\\b").matcher(code).find(), false);
        }
        loopsHaveBounds(code);
        for (String word : ("throw throws try catch finally synchronized assert import package native volatile transient instanceof "
            + "new\\s+\\w+\\s*\\(\\)\\s*\\{ -> :: var record enum interface goto Exact protected while").split(" ")) {
            String wanted = word.matches("\\w+") ? "\\b" + word + "\\b" : word;
            Check.due("no " + word, Pattern.compile(wanted).matcher(code).find(), false);
        }
        Matcher library = Pattern.compile("\\b(System|Math|Integer|Long|Arrays|String|StringBuilder)\\.(\\w+)").matcher(code);
        while (library.find()) {
            String name = library.group();
            Check.due(name + " is in the library", List.of("System.arraycopy", "Math.min", "Math.max").contains(name), true);
        }
        methodsAreShort(code);
    }

    /** Rule 9: every loop counts something against a bound. */
    private static void loopsHaveBounds(String code) {
        Matcher loop = Pattern.compile("\\b(for|while|do)\\b([^{]*)\\{").matcher(code);
        int loops = 0;
        while (loop.find()) {
            loops++;
            String head = loop.group(2).trim();
            Check.due("counts against a bound: " + head, head.matches("\\(int (\\w+) = [^;]+; .*\\b\\1 (<|<=|>|>=) [^;]+; \\1(\\+\\+|--| -= \\d+)\\)"), true);
        }
        Check.due("loops were seen", loops > 50, true);
    }

    private static void methodsAreShort(String code) {
        String[] lines = code.split("\n");
        int begun = -1;
        String indent = "";
        int methods = 0;
        for (int i = 0; i < lines.length; i++) {
            Matcher head = Pattern.compile("^( {4}| {8})(?!class|return)[\\w\\[\\]. ]+\\(([^)]*)\\) \\{$").matcher(lines[i]);
            if (head.find()) {
                begun = i;
                indent = head.group(1);
                methods++;
                Check.due("parameters of" + lines[i], head.group(2).split(",").length <= 7, true);
            } else if (begun >= 0 && lines[i].equals(indent + "}")) {
                Check.due("some sixty lines:" + lines[begun], i - begun < 60, true);
                begun = -1;
            }
        }
        Check.due("methods were seen", methods > 100, true);
    }

    // ---- rule 7 ----

    private static final int[] WILD = {Integer.MIN_VALUE, Integer.MIN_VALUE + 1, -1000000, -2, -1, 0, 1, 2, 3, 4, 5, 7, 8, 9, 10, 12, 13, 15, 16,
        17, 20, 40, 41, 60, 61, 99, 100, 101, 999, 1000, 1001, 999999, 1000000, 100000, Integer.MAX_VALUE - 1, Integer.MAX_VALUE};

    private static void wildCalls() throws Exception {
        List<Method> methods = new ArrayList<>();
        for (Method method : GeeseSums.class.getDeclaredMethods()) {
            if (Modifier.isPublic(method.getModifiers())) {
                methods.add(method);
            }
        }
        methods.sort((a, b) -> a.getName().compareTo(b.getName()));
        String[] texts = {
            "start a;start b;start c;split s;odd o;pond p 1;fox f 9;bread k 99;wind w 7;dusk d;way a to s in 1;way b to o in 2;way c to p in 3;"
                + "way s to o in 1;way s to f in 2;way o to k in 9;way o to w in 1;way p to k in 2;way f to d in 1;way k to s in 1;way w to d in 9;"
                + "claim x at d a / (b - c);claim y at d (a + b + c) % 7 or not a;draw 999;",
            "start a;bread k 99;split s;dusk d;way a to k in 1;way k to s in 1;way s to k in 1;way s to d in 1;claim c at d a;",
            "start a;start b;start c;dusk d;split s;split t;split u;odd v;odd w;odd x;way s to d in 1;way s to t in 1;way t to d in 2;way t to u in 1;"
                + "way u to d in 3;way u to v in 1;way v to w in 1;way v to x in 1;way w to d in 1;way w to s in 1;way x to d in 1;way x to t in 1;"
                + "way a to s in 1;way b to t in 1;way c to u in 1;claim a at d a;claim b at d b;claim c at d c;claim e at d a+b;claim f at d a+b+c;"
                + "claim g at d 0;draw 1;",
            "split s;start a;start b;dusk c;split d;split e;split f;split g;split h;odd i;way a to s in 1;way b to s in 1;way s to d in 1;way s to e in 1;"
                + "way d to c in 1;way d to f in 1;way e to g in 1;way e to h in 1;way f to c in 1;way f to s in 2;way g to c in 2;way g to i in 1;"
                + "way h to i in 1;way h to c in 1;way i to c in 1;way i to s in 9;claim c at c a+b;",
            "dusk d;claim c at d 1 / 0;", "", "start a;"};
        for (int seed = 0; seed < 100; seed++) {
            Random random = new Random(seed);
            GeeseSums x = Check.on(texts[seed % texts.length]);
            for (int i = 0; i < 400; i++) {
                Method method = methods.get(random.nextInt(methods.size()));
                if (method.getName().equals("net") && random.nextInt(4) > 0) {
                    continue;
                }
                Object[] given = new Object[method.getParameterCount()];
                for (int k = 0; k < given.length; k++) {
                    given[k] = random.nextInt(3) == 0 ? WILD[random.nextInt(WILD.length)] : random.nextInt(6);
                }
                boolean fine = true;
                try {
                    method.invoke(x, given);
                } catch (java.lang.reflect.InvocationTargetException e) {
                    fine = false;
                    e.getCause().printStackTrace(System.out);
                }
                Check.due("seed " + seed + ": " + method.getName() + List.of(given) + " throws not", fine, true);
            }
            Check.due("all accounted", x.geese(0) + x.geese(1), x.geese(2) + x.geese(3) + x.geese(4) + x.geese(5));
        }
    }

    // ---- rule 12 ----

    /** Objects and arrays, fields and elements that a new object is made of. */
    private static void room() throws Exception {
        Map<Object, Boolean> seen = new IdentityHashMap<>();
        long elements = count(new GeeseSums(), seen);
        Check.due("objects: " + seen.size(), seen.size() < 400, true);
        Check.due("elements: " + elements, elements < 30000, true);
    }

    private static long count(Object one, Map<Object, Boolean> seen) throws Exception {
        if (one == null || seen.put(one, true) != null) {
            return 0;
        }
        long elements = 0;
        if (one.getClass().isArray()) {
            elements = Array.getLength(one);
            for (int i = 0; i < Array.getLength(one) && !one.getClass().getComponentType().isPrimitive(); i++) {
                elements += count(Array.get(one, i), seen);
            }
            return elements;
        }
        for (Field field : one.getClass().getDeclaredFields()) {
            if (!Modifier.isStatic(field.getModifiers())) {
                elements++;
                field.setAccessible(true);
                if (!field.getType().isPrimitive()) {
                    elements += count(field.get(one), seen);
                }
            }
        }
        return elements;
    }

    // ---- the tests of boundary cases ----

    /** Each promise and each heading of "Terms" has tests of its own, each with a remark that tells the sentence. */
    private static void edges() throws Exception {
        Class<?>[] tests = {EdgeTextTest.class, EdgeSkyTest.class, EdgeRowTest.class, EdgePathTest.class, EdgeSightTest.class,
            EdgeRefusedTest.class};
        TreeSet<String> seen = new TreeSet<>();
        for (Class<?> test : tests) {
            String source = Files.readString(Path.of("src/test/java/" + test.getSimpleName() + ".java"));
            for (Method method : test.getDeclaredMethods()) {
                if (method.getName().matches("(p\\d\\d|t\\d)[A-Z]\\w*")) {
                    seen.add(method.getName().replaceAll("[A-Z].*", ""));
                    String told = "\\*/\n    static void " + method.getName() + "\\(\\)";
                    Check.due(test.getSimpleName() + "." + method.getName() + " has its remark", Pattern.compile(told).matcher(source).find(), true);
                }
            }
        }
        for (int promise = 1; promise <= 40; promise++) {
            String name = promise < 10 ? "p0" + promise : "p" + promise;
            Check.due("edges of promise " + promise, seen.contains(name), true);
        }
        for (int terms = 1; terms <= 4; terms++) {
            Check.due("edges of Terms " + terms, seen.contains("t" + terms), true);
        }
    }
}
