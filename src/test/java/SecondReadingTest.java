import java.lang.reflect.Method;
import java.lang.reflect.Modifier;
import java.util.ArrayList;
import java.util.Arrays;
import java.util.HashMap;
import java.util.List;
import java.util.Map;
import java.util.Random;
import java.util.TreeMap;

/**
 * Whole runs of 512 calls of all kinds, each answer asked against a second reading of the document (SecondReading).
 * The calls are such as a user would make, with edges and wrong ones among them.
 */
public final class SecondReadingTest {
    private static final int CALLS = 512;
    private static final String[] PLANS = {"row", "most", "order", "least", "leastFor", "keep", "starts", "ring", "mistake",
        "dear", "spring", "matters", "room", "bears", "odds", "mean", "barrel", "judge"};
    private static final String[] ACTS = {"pump", "of", "of", "change", "rule", "water", "now", "go", "go", "run", "run", "run",
        "can", "pour", "fill", "night", "rust", "seed", "feed", "wipe", "text", "hold", "as", "sheet", "write", "write", "write",
        "copy", "copy", "load", "image", "tear", "count", "count", "status"};
    private static final String[] KINDS = {"pump", "deep", "spring", "tired", "shared", "morning", "faint"};
    private static final String[] STRAY = {" ", ";", "0", "7", "a", "#", "\n", "\u00e4", " fails 3", " gives 4"};
    private static final int[] BITS = {0, 8, 16, 32, 8, 8, 8, 24};

    private final Random dice;
    private final int mostPumps;
    private final int mostRoom;
    private final PrimedPumps x = new PrimedPumps();
    private final SecondReading second = new SecondReading();
    private int calls = 0;

    private static final Map<String, Method> FACE = new HashMap<>();
    private static final Map<String, Integer> ANSWERED = new TreeMap<>();
    private static final List<String> TOLD = new ArrayList<>();
    private static long asked = 0;
    private static long findings = 0;

    private SecondReadingTest(long seed, int mostPumps, int mostRoom) {
        dice = new Random(seed);
        this.mostPumps = mostPumps;
        this.mostRoom = mostRoom;
    }

    public static void main(String[] args) throws Exception {
        for (Method m : PrimedPumps.class.getDeclaredMethods()) {
            if (Modifier.isPublic(m.getModifiers())) {
                FACE.put(m.getName(), m);
            }
        }
        for (int run = 0; run < 1200; run++) {
            new SecondReadingTest(run, 3 + run % 2, run % 5 == 0 ? 999 : 70).go(2);
        }
        for (int run = 1200; run < 1300; run++) {
            new SecondReadingTest(run, 6, 45).go(6);
        }
        for (int run = 1300; run < 1350; run++) {
            new SecondReadingTest(run, 8, 20).go(60);
        }
        if (ANSWERED.size() != 46) {
            fail("only " + ANSWERED.keySet() + " answered otherwise than by a finding");
        }
        System.out.println(asked + " answers asked, " + findings + " of them findings, 0 wrong");
    }

    /** One step of so many asks about plans, which is slow with many pumps in the second reading. */
    private void go(int seldom) throws Exception {
        TOLD.clear();
        layOut();
        while (calls < CALLS) {
            if (dice.nextInt(seldom) == 0) {
                ask(any(PLANS));
            } else if (dice.nextInt(80) == 0) {
                call("undo");
            } else if (dice.nextInt(15) == 0) {
                tellText();
            } else if (dice.nextInt(15) == 0) {
                listPlan();
            } else if (dice.nextInt(6) == 0 && second.pumps() > 0) {
                visit();
            } else if (dice.nextInt(15) == 0) {
                comeHome();
            } else {
                ask(any(ACTS));
            }
        }
    }

    private String any(String[] words) {
        return words[dice.nextInt(words.length)];
    }

    /** Some pumps to begin with, each held by a spot. */
    private void layOut() throws Exception {
        int pumps = dice.nextInt(mostPumps + 1);
        for (int i = 0; i < pumps; i++) {
            call("pump", dice.nextInt(7), dice.nextInt(16), 1 + dice.nextInt(60));
            call("hold", dice.nextInt(10), i);
        }
    }

    /** What he has comes to the village's store, some of it goes with him, and he rests. */
    private void comeHome() throws Exception {
        call("go", 0);
        call("pour");
        call("fill", 1 + dice.nextInt(Math.max(1, second.store())));
        if (dice.nextBoolean()) {
            call("night");
        }
    }

    /** The carrier goes to a pump with some water and runs it. */
    private void visit() throws Exception {
        int pump = dice.nextInt(second.pumps());
        call("water", dice.nextInt(second.room() + 1));
        call("go", second.mileOf(pump));
        call("run", pump);
    }

    /** A sheet tells a plan. */
    private void listPlan() throws Exception {
        int n = dice.nextInt(second.pumps() + 1);
        int from = dice.nextInt(8);
        int s = dice.nextInt(4);
        call("sheet", s, 8 << dice.nextInt(3), n);
        for (int i = 0; i < n; i++) {
            call("write", s, i, (from + i) % second.pumps());
        }
        call("barrel", s, dice.nextInt(second.room() + 1));
        call("judge", s, dice.nextInt(second.room() + 1));
    }

    private void tellText() throws Exception {
        StringBuilder text = new StringBuilder();
        int items = 1 + dice.nextInt(4);
        for (int i = 0; i < items; i++) {
            text.append(i == 0 ? "" : any(new String[] {";", " ; ", "; "})).append(item());
        }
        if (dice.nextInt(3) == 0) {
            spoil(text);
        }
        if (dice.nextInt(3) > 0) {
            call("wipe");
        }
        feedAll(text);
        call("text");
    }

    /** By one byte to four a call, with bytes above them that don't count. */
    private void feedAll(StringBuilder text) throws Exception {
        int fed = 0;
        while (fed < text.length()) {
            int n = Math.min(1 + dice.nextInt(4), text.length() - fed);
            int bytes = dice.nextInt();
            for (int i = 0; i < n; i++) {
                bytes = bytes << 8 | text.charAt(fed + i);
            }
            call("feed", bytes, n);
            fed += n;
        }
    }

    private String item() {
        switch (dice.nextInt(second.pumps() < mostPumps ? 8 : 4)) {
            case 0: return "room " + (1 + dice.nextInt(mostRoom));
            case 1: return "spills " + dice.nextInt(12);
            case 2: return "water " + dice.nextInt(second.room() + 1);
            case 3: return "drought " + dice.nextInt(11);
            default: return any(KINDS) + " at " + dice.nextInt(25) + perhaps(" gives ", 1, 61) + perhaps(" fails ", 0, 12);
        }
    }

    private String perhaps(String word, int least, int most) {
        return dice.nextBoolean() ? "" : word + (least + dice.nextInt(most - least + 1));
    }

    private void spoil(StringBuilder text) {
        int place = dice.nextInt(text.length());
        switch (dice.nextInt(3)) {
            case 0: text.deleteCharAt(place); break;
            case 1: text.setLength(place); break;
            default: text.insert(place, any(STRAY)); break;
        }
    }

    private void ask(String act) throws Exception {
        switch (act) {
            case "pump":
                if (second.pumps() < mostPumps || mostPumps == 8) {
                    call(act, of(0, 6), dice.nextBoolean() ? of(0, 99) : dice.nextInt(20), of(1, 60));
                }
                break;
            case "of": call(act, pump(), of(0, 7)); break;
            case "change": change(); break;
            case "rule": rule(); break;
            case "water": case "most": case "row": case "starts": case "dear": case "spring": case "matters": case "room":
            case "bears": case "mean": call(act, water()); break;
            case "now": call(act, of(0, 6)); break;
            case "go": call(act, dice.nextInt(4) == 0 ? of(0, 99) : dice.nextBoolean() ? 0 : dice.nextInt(12)); break;
            case "run": case "can": call(act, pump()); break;
            case "fill": call(act, dice.nextBoolean() ? 1 + dice.nextInt(8) : of(1, 999)); break;
            case "order": case "mistake": call(act, water(), dice.nextBoolean() ? dice.nextInt(3) : of(0, 7)); break;
            case "leastFor": call(act, dice.nextInt(9) == 0 ? of(0, 999) : water()); break;
            case "odds": call(act, water(), dice.nextInt(9) == 0 ? of(0, 999) : water()); break;
            case "rust": call(act, of(1, 12)); break;
            case "seed": call(act, dice.nextInt()); break;
            default: askFurther(act); break;
        }
    }

    private void askFurther(String act) throws Exception {
        switch (act) {
            case "barrel": call(act, of(0, 3), dice.nextInt(9) == 0 ? of(0, 999) : water()); break;
            case "judge": call(act, of(0, 3), water()); break;
            case "feed": call(act, dice.nextInt(), of(1, 4)); break;
            case "hold": call(act, of(0, 9), dice.nextInt(4) == 0 ? -1 : pump()); break;
            case "as": call(act, of(0, 9), of(0, 6)); break;
            case "sheet":
                call(act, of(0, 3), BITS[dice.nextInt(BITS.length)], dice.nextBoolean() ? dice.nextInt(5) : of(0, 40));
                break;
            case "write": call(act, of(0, 3), dice.nextBoolean() ? dice.nextInt(5) : of(0, 39), writable()); break;
            case "copy": call(act, of(0, 3), of(0, 4), of(0, 3), of(0, 4), of(0, 4)); break;
            case "load": call(act, of(0, 3)); break;
            case "count": call(act, of(0, 7)); break;
            case "status": call(act, of(-1, 6)); break;
            default: call(act); break;
        }
    }

    /** Numbers that are pumps, or GIVES, or that become such by their lowest bits. */
    private int writable() {
        int v = dice.nextBoolean() ? dice.nextInt(8) : dice.nextInt(70);
        return dice.nextInt(3) == 0 ? v | dice.nextInt() << (dice.nextBoolean() ? 8 : 16) : v;
    }

    private void change() throws Exception {
        int what = of(0, 3);
        int[] most = {6, 99, 60, 11};
        int top = what < 0 || what > 3 ? 9 : most[what];
        call("change", pump(), what, what == 1 && dice.nextBoolean() ? dice.nextInt(20) : of(what == 2 ? 1 : 0, top));
    }

    private void rule() throws Exception {
        int what = of(0, 3);
        int[] most = {mostRoom, 99, 9, 23};
        int top = what < 0 || what > 3 ? 9 : most[what];
        call("rule", what, what == 1 && dice.nextBoolean() ? dice.nextInt(8) : of(what == 0 ? 1 : 0, top));
    }

    private int pump() {
        return dice.nextInt(12) == 0 ? dice.nextInt(11) - 1 : dice.nextInt(Math.max(1, second.pumps()));
    }

    private int water() {
        return dice.nextInt(3) == 0 ? of(0, second.room()) : dice.nextInt(Math.min(second.room(), 12) + 1);
    }

    /** Mostly one of these, at times an end of them, or what lies beyond. */
    private int of(int least, int most) {
        switch (dice.nextInt(25)) {
            case 0: return least - 1;
            case 1: return most + 1;
            case 2: return least;
            case 3: return most;
            case 4: return dice.nextInt(9) == 0 ? dice.nextInt() : least;
            default: return least + dice.nextInt(most - least + 1);
        }
    }

    private void call(String act, int... given) throws Exception {
        if (calls >= CALLS) {
            return;
        }
        calls++;
        asked++;
        Object[] boxed = Arrays.stream(given).boxed().toArray();
        long due = second.ask(act, given);
        long got = ((Number) FACE.get(act).invoke(x, boxed)).longValue();
        String told = act + Arrays.toString(given);
        TOLD.add(told + " " + got);
        if (got != due) {
            TOLD.forEach(System.out::println);
            fail(told + " answered " + got + ", due is " + due);
        }
        boolean finding = got <= -1000001 && got >= -1000007;
        findings += finding ? 1 : 0;
        if (!finding) {
            ANSWERED.merge(act, 1, Integer::sum);
        }
    }

    private static void fail(String why) {
        System.out.println(why);
        System.exit(1);
    }
}
