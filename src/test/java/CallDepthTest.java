import java.io.PrintWriter;
import java.io.StringWriter;
import java.nio.file.Path;
import java.util.ArrayList;
import java.util.HashSet;
import java.util.List;
import java.util.Map;
import java.util.Optional;
import java.util.Set;
import java.util.TreeMap;
import java.util.TreeSet;
import java.util.regex.Matcher;
import java.util.regex.Pattern;
import java.util.spi.ToolProvider;

/**
 * Rules 4, 8, 11 and 12 of LANGUAGE.md as the compiled class tells them: what it calls of the library, that nothing
 * calls itself, that calls go at most eight deep, and that only constructors make objects.
 */
public final class CallDepthTest {
    private static final int DEEPEST = 8;
    private static final Set<String> LIBRARY = Set.of("java/lang/Math.abs", "java/lang/Math.max", "java/lang/Math.min",
        "java/lang/Integer.bitCount", "java/lang/String.charAt", "java/lang/String.length", "java/lang/System.arraycopy",
        "java/lang/Object.<init>");
    private static final Pattern METHOD = Pattern.compile("^ {2}(?! )(?:[^(]* )?([\\w$]+)\\(.*\\);$");
    private static final Pattern CALL = Pattern.compile("invoke\\w+ .*// (?:Interface)?Method ([^:]+):");
    private static final Pattern MAKES = Pattern.compile(": (new|newarray|anewarray|multianewarray)\\b");

    private static final Map<String, Set<String>> CALLS = new TreeMap<>();
    private static int wrong = 0;

    public static void main(String[] args) throws Exception {
        Optional<ToolProvider> javap = ToolProvider.findFirst("javap");
        if (javap.isEmpty()) {
            System.out.println("no javap here: passed over");
            return;
        }
        List<String> names = new ArrayList<>(List.of("PrimedPumps"));
        for (Class<?> c : PrimedPumps.class.getDeclaredClasses()) {
            names.add(c.getName());
        }
        String where = Path.of(PrimedPumps.class.getProtectionDomain().getCodeSource().getLocation().toURI()).toString();
        for (String name : names) {
            StringWriter told = new StringWriter();
            javap.get().run(new PrintWriter(told), new PrintWriter(System.err), "-p", "-c", "-cp", where, name);
            read(name, told.toString());
        }
        int deepest = 0;
        for (String method : CALLS.keySet()) {
            deepest = Math.max(deepest, depth(method, new HashSet<>()));
        }
        breach(CALLS.size() < 46, "only " + CALLS.size() + " methods were read");
        breach(deepest > DEEPEST, "calls go " + deepest + " deep");
        System.out.println(CALLS.size() + " methods, calls at most " + deepest + " deep, " + wrong + " breaches");
        if (wrong != 0) {
            System.exit(1);
        }
    }

    private static void breach(boolean is, String what) {
        if (is) {
            wrong++;
            System.out.println(what);
        }
    }

    private static void read(String name, String told) {
        String simple = name.substring(name.lastIndexOf('$') + 1);
        String method = "";
        for (String line : told.split("\\R")) {
            Matcher begins = METHOD.matcher(line);
            if (begins.matches()) {
                boolean makes = begins.group(1).equals(name) || begins.group(1).equals(simple);
                method = name + "." + (makes ? "<init>" : begins.group(1));
                CALLS.put(method, new TreeSet<>());
            } else if (line.startsWith("  static {}")) {
                method = name + ".<clinit>";
                CALLS.put(method, new TreeSet<>());
            }
            Matcher call = CALL.matcher(line);
            if (call.find()) {
                String called = call.group(1).replace("\"", "");
                CALLS.get(method).add(called.contains(".") ? called : name + "." + called);
            }
            breach(MAKES.matcher(line).find() && !method.contains("init>"), method + " makes an object");
        }
    }

    /** How deep the calls go from a method on, itself counted, the library's too. */
    private static int depth(String method, Set<String> open) {
        if (!CALLS.containsKey(method)) {
            breach(!LIBRARY.contains(method), method + " is called");
            return 1;
        }
        if (!open.add(method)) {
            breach(true, method + " calls itself");
            return 0;
        }
        int deepest = 0;
        for (String called : CALLS.get(method)) {
            deepest = Math.max(deepest, depth(called, open));
        }
        open.remove(method);
        return 1 + deepest;
    }
}
