import java.io.IOException;
import java.lang.reflect.InvocationTargetException;
import java.lang.reflect.Method;
import java.net.URL;
import java.net.URLClassLoader;
import java.nio.file.Files;
import java.nio.file.Path;
import java.util.ArrayList;
import java.util.Comparator;
import java.util.LinkedHashMap;
import java.util.List;
import java.util.Map;
import java.util.NoSuchElementException;
import java.util.Random;
import java.util.Set;
import java.util.TreeMap;
import java.util.TreeSet;
import java.util.regex.Matcher;
import java.util.regex.Pattern;
import java.util.stream.Stream;
import javax.tools.ToolProvider;

/**
 * README.md tells what is so: each example is compiled and run and each comment in it begins with the answer, the table of
 * calls has the face and what a call answers where it is refused, the table of tests has each test.
 */
public final class ReadmeTest {
    private static final Path README = Path.of("README.md");
    private static final Path TESTS = Path.of("src/test/java");
    private static final Pattern EXAMPLE = Pattern.compile("(?ms)^```java\n(.*?)^```$");
    /** A declared name or nothing, the call, and the answer up to a colon or the line's end. */
    private static final Pattern SHOWN = Pattern.compile("(?:int (\\w+) = )?(heap\\..*);\\s+// ([^:]+)(?::.*)?");
    private static final Pattern CALL_ROW = Pattern.compile("(?m)^\\| `(\\w+)\\(([^)]*)\\)` \\|.*\\| ([^|]*)\\|$");
    private static final Pattern TEST_ROW = Pattern.compile("(?m)^\\| `(\\w+Test)` \\|");
    private static final int[] SOME = {
        Integer.MIN_VALUE, -200001, -200000, -2, -1, 0, 1, 2, 3, 4, 5, 10000, 10001, 65536, 100001, 200001, Integer.MAX_VALUE};
    /** Kept once each: a drawn run would tell the same fault over and over. */
    private static final Set<String> faults = new TreeSet<>();

    /** Of a row of the table of calls: how many numbers the call takes, and what stands in its third column. */
    private record Row(int takes, String orElse) {
        boolean mayBeRefused() {
            return orElse.contains("(");
        }

        String elseAnswer() {
            return orElse.replaceAll("`|\\(.*", "").trim();
        }

        Set<Integer> troubles() {
            Set<Integer> numbers = new TreeSet<>();
            Matcher m = Pattern.compile("\\d").matcher(mayBeRefused() ? orElse : "");
            while (m.find()) {
                numbers.add(Integer.parseInt(m.group()));
            }
            return numbers;
        }
    }

    private static void must(boolean holds, String what) {
        if (!holds && faults.add(what)) {
            System.out.println("README.md: " + what);
        }
    }

    private static List<Method> face() {
        List<Method> all = new ArrayList<>(List.of(PictureHeap.class.getDeclaredMethods()));
        all.removeIf(m -> !java.lang.reflect.Modifier.isPublic(m.getModifiers()));
        all.sort(Comparator.comparing(Method::getName));
        return all;
    }

    private static void examplesAreSo(String readme, Path work) throws Exception {
        int examples = 0;
        Set<String> called = new TreeSet<>();
        Matcher m = EXAMPLE.matcher(readme);
        while (m.find()) {
            examples++;
            String name = "Example" + examples;
            Path source = work.resolve(name + ".java");
            Files.writeString(source, program(name, m.group(1), called));
            int compiled = ToolProvider.getSystemJavaCompiler().run(null, null, null, "-cp",
                    System.getProperty("java.class.path"), "-d", work.toString(), source.toString());
            must(compiled == 0, "example " + examples + " does not compile");
            if (compiled == 0) {
                runExample(name, work);
            }
        }
        must(examples > 0, "there is no example");
        for (Method call : face()) {
            must(called.contains(call.getName()), "no example shows " + call.getName() + "()");
        }
    }

    private static void runExample(String name, Path work) throws Exception {
        try (URLClassLoader made = new URLClassLoader(new URL[] {work.toUri().toURL()})) {
            Object faults = made.loadClass(name).getMethod("faults").invoke(null);
            for (String fault : faults.toString().split("\n")) {
                must(fault.isEmpty(), name + ": " + fault);
            }
        }
    }

    /** The example's lines, each answer that it shows turned into a check. */
    private static String program(String name, String example, Set<String> called) {
        StringBuilder body = new StringBuilder();
        for (String line : example.split("\n")) {
            Matcher shown = SHOWN.matcher(line.trim());
            if (shown.matches()) {
                body.append(check(shown.group(1), shown.group(2), shown.group(3).trim()));
                called.add(shown.group(2).replaceAll("heap\\.(\\w+).*", "$1"));
            } else {
                must(line.matches("PictureHeap \\w+ = new PictureHeap\\(\\);"), "shows no answer: " + line);
                body.append(line).append('\n');
            }
        }
        return "public final class " + name + " {\n"
                + "static StringBuilder faults = new StringBuilder();\n"
                + "static void due(String call, Object got, String want) {\n"
                + "if (!String.valueOf(got).equals(want)) { faults.append(call + \" answered \" + got + \", shown is \" + want + \"\\n\"); }\n"
                + "}\n"
                + "public static String faults() {\n" + body + "return faults.toString();\n}\n}\n";
    }

    private static String check(String declared, String call, String answer) {
        String head = "due(\"" + call + "\", ";
        String tail = ", \"" + answer + "\");";
        if (declared != null) {
            return "int " + declared + " = " + call + ";\n" + head + declared + tail + "\n";
        }
        return "try { " + head + call + tail + " }\n"
                + "catch (RuntimeException e) { " + head + "\"throws \" + e.getClass().getSimpleName()" + tail + " }\n";
    }

    private static Map<String, Row> callRows(String readme) {
        Map<String, Row> rows = new LinkedHashMap<>();
        Matcher m = CALL_ROW.matcher(readme);
        while (m.find()) {
            int takes = m.group(2).isEmpty() ? 0 : m.group(2).split(", ").length;
            must(rows.put(m.group(1), new Row(takes, m.group(3))) == null, m.group(1) + "() is there twice");
        }
        return rows;
    }

    private static void tableHasTheFace(Map<String, Row> rows) {
        Set<String> names = new TreeSet<>();
        for (Method call : face()) {
            Row row = rows.get(call.getName());
            names.add(call.getName());
            must(row != null && row.takes == call.getParameterCount(), "the table of calls has no such " + call);
        }
        must(names.containsAll(rows.keySet()), "the table of calls has more than " + names);
    }

    /** On a new heap nothing bears a number, so each call that can find nothing finds nothing. */
    private static void nothingIsAnsweredAsShown(Map<String, Row> rows) throws ReflectiveOperationException {
        for (Method call : face()) {
            Row row = rows.get(call.getName());
            if (row != null && !row.mayBeRefused() && !row.elseAnswer().isEmpty()) {
                Object[] numbers = new Object[call.getParameterCount()];
                for (int i = 0; i < numbers.length; i++) {
                    numbers[i] = call.getParameterTypes()[i] == int.class ? (Object) Integer.MIN_VALUE : (Object) false;
                }
                String got = answer(new PictureHeap(), call, numbers);
                must(got.equals(row.elseAnswer()), call.getName() + "() of nothing answered " + got);
            }
        }
    }

    /** Drawn calls: each is refused with just the troubles that its row names, and no other call changes trouble(). */
    private static void troublesAreAsShown(Map<String, Row> rows) throws ReflectiveOperationException {
        Map<String, Set<Integer>> seen = new TreeMap<>();
        Random random = new Random(9);
        for (int turn = 0; turn < 2000; turn++) {
            PictureHeap heap = turn % 2 == 0 ? Heaps.full() : Heaps.some();
            for (int i = 0; i < 100; i++) {
                Method call = face().get(random.nextInt(face().size()));
                Row row = rows.get(call.getName());
                int before = heap.trouble();
                String got = answer(heap, call, drawn(call, random));
                int after = heap.trouble();
                if (row != null && !row.mayBeRefused()) {
                    must(after == before, call.getName() + "() changed trouble()");
                } else if (row != null && after != 0) {
                    seen.computeIfAbsent(call.getName(), n -> new TreeSet<>()).add(after);
                    must(got.equals(row.elseAnswer()), call.getName() + "() was refused and answered " + got);
                }
            }
        }
        rows.forEach((name, row) -> {
            Set<Integer> troubles = seen.getOrDefault(name, Set.of());
            must(troubles.equals(row.troubles()), name + "() was refused by " + troubles);
        });
    }

    private static Object[] drawn(Method call, Random random) {
        Object[] numbers = new Object[call.getParameterCount()];
        for (int i = 0; i < numbers.length; i++) {
            boolean small = random.nextBoolean();
            numbers[i] = call.getParameterTypes()[i] == boolean.class ? (Object) small
                    : (Object) (small ? random.nextInt(4) : SOME[random.nextInt(SOME.length)]);
        }
        return numbers;
    }

    /** In the words of the table: NONE and UNKNOWN by name. */
    private static String answer(PictureHeap heap, Method call, Object[] numbers) throws ReflectiveOperationException {
        try {
            String got = String.valueOf(call.invoke(heap, numbers));
            return got.equals("-1") ? "NONE" : got.equals("-1000000") ? "UNKNOWN" : got;
        } catch (InvocationTargetException e) {
            return e.getCause() instanceof NoSuchElementException ? "throws NoSuchElementException" : e.getCause().toString();
        }
    }

    private static void tableHasTheTests(String readme) throws IOException {
        Set<String> told = new TreeSet<>();
        Matcher m = TEST_ROW.matcher(readme);
        while (m.find()) {
            told.add(m.group(1));
        }
        Set<String> there = new TreeSet<>();
        try (Stream<Path> files = Files.list(TESTS)) {
            files.forEach(f -> there.add(f.getFileName().toString().replace(".java", "")));
        }
        must(told.equals(there), "the tests are " + there + ", told are " + told);
    }

    private static void clear(Path work) throws IOException {
        try (Stream<Path> files = Files.list(work)) {
            for (Path file : files.toList()) {
                Files.delete(file);
            }
        }
        Files.delete(work);
    }

    public static void main(String[] args) throws Exception {
        String readme = Files.readString(README);
        Path work = Files.createTempDirectory("readme");
        examplesAreSo(readme, work);
        clear(work);
        Map<String, Row> rows = callRows(readme);
        tableHasTheFace(rows);
        nothingIsAnsweredAsShown(rows);
        troublesAreAsShown(rows);
        tableHasTheTests(readme);
        System.out.println(faults.isEmpty() ? "README.md tells what is so" : faults.size() + " things are not so");
        if (!faults.isEmpty()) {
            System.exit(1);
        }
    }
}
