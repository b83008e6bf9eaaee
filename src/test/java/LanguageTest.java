import java.io.IOException;
import java.lang.reflect.Constructor;
import java.lang.reflect.Field;
import java.lang.reflect.Method;
import java.lang.reflect.Modifier;
import java.nio.charset.StandardCharsets;
import java.nio.file.Files;
import java.nio.file.Path;
import java.util.ArrayList;
import java.util.List;
import java.util.Set;
import java.util.TreeSet;
import java.util.regex.Matcher;
import java.util.regex.Pattern;

/** The face of the class, and those rules of LANGUAGE.md that a look at its text and its members can tell. */
public final class LanguageTest {
    private static final String[] FACE = {"pump 3", "of 2", "change 3", "rule 2", "water 1", "now 1", "go 1", "run 1", "can 1",
        "pour 0", "fill 1", "night 0", "row 1", "most 1", "order 2", "least 0", "leastFor 1", "keep 0", "starts 1", "ring 0",
        "mistake 2", "dear 1", "spring 1", "matters 1", "room 1", "bears 1", "odds 2", "mean 1", "rust 1", "seed 1", "barrel 2",
        "judge 2", "feed 2", "wipe 0", "text 0", "hold 2", "as 2", "sheet 3", "write 3", "copy 5", "load 1", "image 0", "undo 0",
        "tear 0", "count 1", "status 1"};
    private static final String[] FORBIDDEN = {"throw", "throws", "try", "catch", "finally", "synchronized", "assert", "import",
        "package", "protected", "Object", "Exception", "System\\.(?!arraycopy)\\w+", "Random", "Thread", "float", "double",
        "->", "::", "volatile", "native", "transient"};

    private static int wrong = 0;

    public static void main(String[] args) throws IOException {
        face();
        inside();
        Path file = Path.of(args.length > 0 ? args[0] : ".", "src/main/java/PrimedPumps.java");
        words(Files.readString(file, StandardCharsets.US_ASCII));
        System.out.println(wrong + " breaches");
        if (wrong != 0) {
            System.exit(1);
        }
    }

    private static void breach(boolean is, String what) {
        if (is) {
            wrong++;
            System.out.println(what);
        }
    }

    private static void face() {
        Class<?> c = PrimedPumps.class;
        breach(!Modifier.isFinal(c.getModifiers()) || !Modifier.isPublic(c.getModifiers()), "the class isn't public and final");
        Set<String> due = new TreeSet<>(List.of(FACE));
        Set<String> names = new TreeSet<>();
        Set<String> there = new TreeSet<>();
        for (Method m : c.getDeclaredMethods()) {
            if (Modifier.isPublic(m.getModifiers())) {
                there.add(m.getName() + " " + m.getParameterCount());
                names.add(m.getName());
                boolean wide = m.getName().equals("odds") || m.getName().equals("mean");
                breach(m.getReturnType() != (wide ? long.class : int.class), m + " has another type");
                breach(m.getExceptionTypes().length > 0, m + " declares exceptions");
                for (Class<?> type : m.getParameterTypes()) {
                    breach(type != int.class, m + " takes another type");
                }
            }
        }
        breach(!there.equals(due), "the face is " + there);
        List<Class<?>> classes = new ArrayList<>(List.of(c.getDeclaredClasses()));
        classes.add(c);
        for (Class<?> k : classes) {
            for (Method m : k.getDeclaredMethods()) {
                boolean isFace = k == c && Modifier.isPublic(m.getModifiers());
                breach(!isFace && names.contains(m.getName()), m + " bears the name of a public one");
                breach(k == c && !Modifier.isPublic(m.getModifiers()) && !Modifier.isPrivate(m.getModifiers()), m + " can be seen");
                breach(m.getParameterCount() > 7, m + " has too many parameters");
            }
        }
        for (Constructor<?> k : c.getDeclaredConstructors()) {
            breach(k.getParameterCount() != 0 || !Modifier.isPublic(k.getModifiers()), k + " isn't the document's");
        }
        for (Field f : c.getDeclaredFields()) {
            breach(!Modifier.isPrivate(f.getModifiers()), f + " can be seen");
        }
    }

    private static void inside() {
        Class<?>[] classes = PrimedPumps.class.getDeclaredClasses();
        breach(classes.length > 12, "too many classes");
        for (Class<?> c : classes) {
            breach(!Modifier.isStatic(c.getModifiers()), c + " isn't static");
            breach(c.getDeclaredClasses().length > 0, c + " has classes inside");
            int fields = 0;
            for (Field f : c.getDeclaredFields()) {
                boolean fixed = Modifier.isStatic(f.getModifiers());
                breach(fixed && !Modifier.isFinal(f.getModifiers()), f + " is static and not final");
                fields += fixed ? 0 : 1;
            }
            breach(fields > 20, c + " has " + fields + " fields");
        }
    }

    private static void words(String text) {
        String code = text.replaceAll("(?s)/\\*.*?\\*/", "").replaceAll("//[^\n]*", "").replaceAll("\"[^\"\n]*\"", "\"\"");
        for (String word : FORBIDDEN) {
            Matcher m = Pattern.compile(Character.isLetter(word.charAt(0)) ? "\\b" + word + "\\b" : word).matcher(code);
            breach(m.find(), "the program has " + word);
        }
        int begun = 0;
        String[] lines = text.split("\n");
        for (int i = 0; i < lines.length; i++) {
            breach(lines[i].length() > 120, "line " + (i + 1) + " is long");
            if (lines[i].matches(" {4,8}(public|private|static|[a-z]+ [a-zA-Z]+\\().*\\{")) {
                begun = i;
            }
            boolean ends = lines[i].equals("    }") || lines[i].equals("        }");
            breach(ends && !lines[begun].contains(" class ") && i - begun > 60, "the method at line " + (begun + 1) + " is long");
        }
    }
}
