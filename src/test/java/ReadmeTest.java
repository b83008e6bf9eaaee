import java.io.IOException;
import java.lang.reflect.Method;
import java.lang.reflect.Modifier;
import java.nio.file.Files;
import java.nio.file.Path;
import java.util.ArrayList;
import java.util.Arrays;
import java.util.List;
import java.util.TreeSet;
import java.util.regex.Matcher;
import java.util.regex.Pattern;
import java.util.stream.Collectors;
import java.util.stream.Stream;

/** What README.md shows as an answer is what the class answers; it names all calls, findings and tests. */
public final class ReadmeTest {
    private static final String MADE = "PrimedPumps x = new PrimedPumps();";
    private static final Pattern CALL = Pattern.compile("x\\.(\\w+)\\((.*)\\); +// (-?\\d+)(:.*)?");
    private static final String[] FINDINGS = {"BEYOND", "FULL", "KIND", "NONE", "STATE", "MISSING", "SIZE"};

    private static int wrong = 0;
    private static int asked = 0;

    public static void main(String[] args) throws Exception {
        Path here = Path.of(args.length > 0 ? args[0] : ".");
        String page = Files.readString(here.resolve("README.md"));
        answers(page);
        findings(page);
        calls(page);
        tests(page, here);
        System.out.println(asked + " answers and names asked, " + wrong + " wrong");
        if (wrong != 0) {
            System.exit(1);
        }
    }

    private static void due(boolean is, String otherwise) {
        asked++;
        if (!is) {
            wrong++;
            System.out.println(otherwise);
        }
    }

    private static void answers(String page) throws Exception {
        Matcher block = Pattern.compile("(?s)```java\n(.*?)```").matcher(page);
        int blocks = 0;
        while (block.find()) {
            blocks++;
            PrimedPumps x = null;
            for (String line : block.group(1).split("\n")) {
                if (line.equals(MADE)) {
                    x = new PrimedPumps();
                } else {
                    answer(x, line);
                }
            }
        }
        due(blocks > 0, "README.md shows no calls");
    }

    private static void answer(PrimedPumps x, String line) throws Exception {
        Matcher call = CALL.matcher(line);
        if (x == null || !call.matches()) {
            due(false, "no call with its answer: " + line);
            return;
        }
        int[] given = Stream.of(call.group(2).split(", *")).filter(a -> !a.isEmpty())
            .mapToInt(a -> Long.decode(a).intValue()).toArray();
        Object[] boxed = Arrays.stream(given).boxed().toArray();
        Class<?>[] types = new Class<?>[given.length];
        Arrays.fill(types, int.class);
        Method m = PrimedPumps.class.getMethod(call.group(1), types);
        long got = ((Number) m.invoke(x, boxed)).longValue();
        due(got == Long.parseLong(call.group(3)), line + " -- answered " + got);
    }

    private static void findings(String page) {
        for (int f = 0; f < FINDINGS.length; f++) {
            due(page.contains("| " + (-1000001 - f) + " | " + FINDINGS[f] + " |"), "README.md doesn't tell " + FINDINGS[f]);
        }
    }

    private static void calls(String page) {
        String table = page.substring(page.indexOf("### All calls"), page.indexOf("## Tests"));
        List<String> named = new ArrayList<>();
        Matcher name = Pattern.compile("(?m)`(\\w+)`(?=[^|\n]*\\|[^|\n]*\\|$)").matcher(table);
        while (name.find()) {
            named.add(name.group(1));
        }
        List<String> face = new ArrayList<>();
        for (Method m : PrimedPumps.class.getDeclaredMethods()) {
            if (Modifier.isPublic(m.getModifiers())) {
                face.add(m.getName());
            }
        }
        named.sort(null);
        face.sort(null);
        due(named.equals(face), "README.md names the calls " + named);
    }

    private static void tests(String page, Path here) throws IOException {
        TreeSet<String> there;
        try (Stream<Path> files = Files.list(here.resolve("src/test/java"))) {
            there = files.map(f -> f.getFileName().toString().replace(".java", "")).collect(Collectors.toCollection(TreeSet::new));
        }
        TreeSet<String> named = new TreeSet<>();
        Matcher name = Pattern.compile("(?m)^\\| (\\w+Test) \\|").matcher(page);
        while (name.find()) {
            named.add(name.group(1));
        }
        due(named.equals(there), "README.md names the tests " + named + ", there are " + there);
    }
}
