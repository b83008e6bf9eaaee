import java.lang.reflect.InvocationTargetException;
import java.lang.reflect.Method;
import java.lang.reflect.Modifier;
import java.util.ArrayList;
import java.util.Arrays;
import java.util.Comparator;
import java.util.List;
import java.util.Random;

/**
 * Calls of all kinds with any arguments: none throws, each finding is counted by status(), and one that
 * answers a finding changes nothing: a twin that is spared those calls answers all others alike.
 */
public final class WildCallsTest {
    private static final int LOW = -1000001;
    private static final String[] WORDS = {"pump", "deep", "spring", "tired", "shared", "morning", "faint", "at", "gives",
        "fails", "room", "spills", "water", "drought", ";", ";", "1", "5", "30", "61", "999", "1000", "0", "wall", "#"};
    private static final int[] EDGES = {-2, -1, 0, 0, 1, 2, 3, 4, 5, 6, 7, 8, 9, 10, 16, 24, 30, 32, 39, 40, 41, 60, 61, 99, 100,
        998, 999, 1000, Integer.MAX_VALUE, Integer.MIN_VALUE, -1000001};

    public static void main(String[] args) throws Exception {
        Random dice = new Random(47);
        List<Method> face = face();
        long answered = 0;
        long findings = 0;
        for (int run = 0; run < 400; run++) {
            PrimedPumps x = new PrimedPumps();
            PrimedPumps spared = new PrimedPumps();
            int[] found = new int[7];
            for (int call = 0; call < 512; call++) {
                if (dice.nextInt(12) == 0) {
                    String text = dice.nextInt(5) == 0 ? wildText(dice) : fairText(dice);
                    feedAll(x, text);
                    feedAll(spared, text);
                    same(run, "text " + text, x.text(), spared.text());
                }
                Method m = face.get(dice.nextInt(face.size()));
                Object[] given = arguments(m, dice, run);
                int before = x.status(-1);
                long got = ask(x, m, given, run);
                answered++;
                if (x.status(-1) == before + 1) {
                    findings++;
                    tallied(run, m, got, found, x);
                } else {
                    same(run, m.getName(), x.status(-1), before);
                    same(run, m.getName() + Arrays.toString(given), ask(spared, m, given, run), got);
                }
            }
        }
        System.out.println(answered + " calls, " + findings + " findings, no one wrong");
    }

    private static List<Method> face() {
        List<Method> face = new ArrayList<>();
        for (Method m : PrimedPumps.class.getDeclaredMethods()) {
            if (Modifier.isPublic(m.getModifiers()) && !m.getName().equals("status") && !m.getName().equals("feed")) {
                face.add(m);
            }
        }
        face.sort(Comparator.comparing(Method::getName));
        if (face.size() != 44) {
            fail("the face has " + face.size() + " calls beside status and feed");
        }
        return face;
    }

    private static Object[] arguments(Method m, Random dice, int run) {
        Object[] given = new Object[m.getParameterCount()];
        for (int i = 0; i < given.length; i++) {
            int kind = dice.nextInt(run % 2 == 0 ? 4 : 12);
            given[i] = kind == 0 ? EDGES[dice.nextInt(EDGES.length)] : kind == 1 ? dice.nextInt(50) : dice.nextInt(8);
        }
        return given;
    }

    private static long ask(PrimedPumps x, Method m, Object[] given, int run) throws Exception {
        try {
            return ((Number) m.invoke(x, given)).longValue();
        } catch (InvocationTargetException e) {
            e.getCause().printStackTrace();
            fail("run " + run + ": " + m.getName() + Arrays.toString(given) + " threw " + e.getCause());
            return 0;
        }
    }

    private static void tallied(int run, Method m, long got, int[] found, PrimedPumps x) {
        int which = (int) (LOW - got);
        if (which < 0 || which > 6) {
            fail("run " + run + ": " + m.getName() + " counted a finding, but answered " + got);
        }
        found[which]++;
        for (int f = 0; f < 7; f++) {
            same(run, "status " + f, x.status(f), found[f]);
        }
    }

    private static void feedAll(PrimedPumps x, String text) {
        x.wipe();
        for (int i = 0; i < text.length() && i < 120; i++) {
            x.feed(text.charAt(i), 1);
        }
    }

    private static String wildText(Random dice) {
        StringBuilder text = new StringBuilder();
        int words = dice.nextInt(12);
        for (int i = 0; i < words; i++) {
            text.append(WORDS[dice.nextInt(WORDS.length)]).append(dice.nextInt(5) == 0 ? "" : " ");
        }
        return text.toString();
    }

    private static String fairText(Random dice) {
        String[] fair = {"pump at 5 gives 20", "deep at 12;spring at 3 fails 4", "room 60;spills 3", "water 5", "drought 2",
            "faint at 1 gives 30;tired at 2", "morning at 9 fails 11;shared at 0 gives 60"};
        return fair[dice.nextInt(fair.length)];
    }

    private static void same(int run, String what, long one, long other) {
        if (one != other) {
            fail("run " + run + ": " + what + ": " + one + " and " + other);
        }
    }

    private static void fail(String why) {
        System.out.println(why);
        System.exit(1);
    }
}
