import java.util.ArrayList;
import java.util.Arrays;
import java.util.List;
import java.util.regex.Matcher;
import java.util.regex.Pattern;

/**
 * The document written down once more, from its first line, in other ways than the class has: each answer as plainly
 * as its words have it, plans by trying every order. What it answers is what the class is asked against.
 */
final class SecondReading {
    private static final int LOW = -1000001;
    private static final int BEYOND = 0;
    private static final int FULL = 1;
    private static final int KIND = 2;
    private static final int NONE = 3;
    private static final int STATE = 4;
    private static final int MISSING = 5;
    private static final int SIZE = 6;
    private static final Pattern TOKEN = Pattern.compile(" *([a-z]+|[0-9]+|;)?", Pattern.DOTALL);
    private static final List<String> KINDS = List.of("pump", "deep", "spring", "tired", "shared", "morning", "faint");
    private static final int[] ABOVE = {-1, 0, 0, 0, 1, 0, 3};

    /** A finding that an act tells. */
    private static final class Finding extends RuntimeException {
        private static final long serialVersionUID = 1;
        final int which;

        Finding(int which) {
            super(null, null, false, false);
            this.which = which;
        }
    }

    /** Where a text can't go on. */
    private static final class Fault extends RuntimeException {
        private static final long serialVersionUID = 1;
        final int place;

        Fault(int place) {
            super(null, null, false, false);
            this.place = place;
        }
    }

    private static final class Pump {
        int kind;
        int mile;
        int gives;
        int fails;
        int used;
        boolean today;

        Pump(int kind, int mile, int gives, int fails) {
            this.kind = kind;
            this.mile = mile;
            this.gives = gives;
            this.fails = fails;
        }

        Pump twin() {
            Pump p = new Pump(kind, mile, gives, fails);
            p.used = used;
            p.today = today;
            return p;
        }
    }

    /** All but THE TAPE and SHEETS. */
    private static final class World {
        final List<Pump> pumps = new ArrayList<>();
        int mile;
        int water;
        int room = 40;
        int spills = 5;
        int store;
        int hour;
        int day;
        int drought;
        int spilt;
        int runOff;
        int z = 1;
        final int[] spots = {-1, -1, -1, -1, -1, -1, -1, -1, -1, -1};

        World twin() {
            World t = new World();
            for (Pump p : pumps) {
                t.pumps.add(p.twin());
            }
            t.mile = mile;
            t.water = water;
            t.room = room;
            t.spills = spills;
            t.store = store;
            t.hour = hour;
            t.day = day;
            t.drought = drought;
            t.spilt = spilt;
            t.runOff = runOff;
            t.z = z;
            System.arraycopy(spots, 0, t.spots, 0, 10);
            return t;
        }
    }

    private static final class Row {
        final int bits;
        final int[] numbers;

        Row(int bits, int n) {
            this.bits = bits;
            numbers = new int[n];
        }
    }

    private World world = new World();
    private World kept = null;
    private String tape = "";
    private final Row[] rows = new Row[4];
    private final int[] found = new int[7];

    int pumps() {
        return world.pumps.size();
    }

    int room() {
        return world.room;
    }

    int store() {
        return world.store;
    }

    int mileOf(int pump) {
        return world.pumps.get(pump).mile;
    }

    /** What the act of that name answers; one that answers a finding leaves the world as it was. */
    long ask(String act, int... a) {
        World before = world.twin();
        try {
            return answer(act, a);
        } catch (Finding f) {
            world = before;
            found[f.which]++;
            return LOW - f.which;
        }
    }

    private long answer(String act, int[] a) {
        switch (act) {
            case "pump": return pump(a[0], a[1], a[2]);
            case "of": return of(a[0], a[1]);
            case "change": return change(a[0], a[1], a[2]);
            case "rule": return rule(a[0], a[1]);
            case "water": return water(a[0]);
            case "now": return now(a[0]);
            case "go": return go(a[0]);
            case "run": return run(a[0]);
            case "can": return can(pumpOf(a[0])) ? 1 : 0;
            case "pour": return pour();
            case "fill": return fill(a[0]);
            case "night": return night();
            case "row": return row(barrelOf(a[0]));
            case "most": return most(barrelOf(a[0]));
            case "order": return order(barrelOf(a[0]), a[1]);
            case "least": return least();
            case "leastFor": return leastFor(a[0]);
            case "keep": return keep();
            case "starts": return starts(barrelOf(a[0]));
            case "ring": return ring();
            case "mistake": return mistake(barrelOf(a[0]), a[1]);
            case "dear": return dear(barrelOf(a[0]));
            case "spring": return spring(barrelOf(a[0]));
            default: return answerFurther(act, a);
        }
    }

    private long answerFurther(String act, int[] a) {
        switch (act) {
            case "matters": return matters(barrelOf(a[0]));
            case "room": return room(barrelOf(a[0]));
            case "bears": return bears(barrelOf(a[0]));
            case "odds": return odds(barrelOf(a[0]), a[1]);
            case "mean": return mean(barrelOf(a[0]));
            case "rust": return rust(a[0]);
            case "seed": return seed(a[0]);
            case "barrel": return barrel(a[0], a[1]);
            case "judge": return judge(a[0], a[1]);
            case "feed": return feed(a[0], a[1]);
            case "wipe": return wipe();
            case "text": return text();
            case "hold": return hold(a[0], a[1]);
            case "as": return as(a[0], a[1]);
            case "sheet": return sheet(a[0], a[1], a[2]);
            case "write": return write(a[0], a[1], a[2]);
            case "copy": return copy(a[0], a[1], a[2], a[3], a[4]);
            case "load": return load(a[0]);
            case "image": return image();
            case "undo": return undo();
            case "tear": return tear();
            case "count": return count(a[0]);
            case "status": return status(a[0]);
            default: throw new IllegalArgumentException(act);
        }
    }

    private static void tell(boolean is, int finding) {
        if (is) {
            throw new Finding(finding);
        }
    }

    private static int within(int v, int least, int most) {
        tell(v < least || v > most, BEYOND);
        return v;
    }

    private Pump pumpOf(int pump) {
        return world.pumps.get(within(pump, 0, pumps() - 1));
    }

    private int barrelOf(int w) {
        return within(w, 0, world.room);
    }

    // ---- terms

    private int yieldOf(Pump p) {
        return yieldAs(p.kind, p);
    }

    private int yieldAs(int kind, Pump p) {
        switch (kind) {
            case 0: return Math.max(0, p.gives - world.drought);
            case 2: return 1;
            case 3: return Math.max(0, yieldAs(0, p) - p.used);
            case 4: return yieldAs(1, p) / 2;
            case 5: return yieldAs(0, p) + (world.hour < 9 ? 3 : 0);
            case 6: return world.hour >= 12 ? 0 : yieldAs(3, p);
            default: return yieldAs(ABOVE[kind], p);
        }
    }

    private int needOf(Pump p) {
        return needAs(p.kind, p);
    }

    private int needAs(int kind, Pump p) {
        int yields = yieldOf(p);
        switch (kind) {
            case 0: return yields / 3 + (yields % 3 == 0 ? 0 : 1);
            case 1: return yields / 2 + (yields % 2 == 0 ? 0 : 1);
            case 2: return 0;
            case 6: return needAs(3, p) + 1;
            default: return needAs(ABOVE[kind], p);
        }
    }

    private int lost(int a, int b, int water) {
        return world.spills == 0 ? 0 : Math.min(water, Math.abs(a - b) / world.spills);
    }

    private int draw() {
        world.z = world.z * 1103515245 + 12345;
        return world.z >>> 8;
    }

    private boolean can(Pump p) {
        return can(p, world.water);
    }

    private boolean can(Pump p, int water) {
        return !p.today && yieldOf(p) > 0 && water >= needOf(p);
    }

    private int behind(Pump p, int water) {
        return Math.min(world.room, water - needOf(p) + yieldOf(p));
    }

    // ---- the road

    private int pump(int kind, int mile, int gives) {
        within(kind, 0, 6);
        within(mile, 0, 99);
        within(gives, 1, 60);
        tell(pumps() == 8, FULL);
        world.pumps.add(new Pump(kind, mile, gives, 0));
        return pumps() - 1;
    }

    private int of(int pump, int what) {
        Pump p = pumpOf(pump);
        int[] all = {p.kind, p.mile, p.gives, p.fails, p.used, p.today ? 1 : 0, yieldOf(p), needOf(p)};
        return all[within(what, 0, 7)];
    }

    private int change(int pump, int what, int v) {
        Pump p = pumpOf(pump);
        int was = of(pump, within(what, 0, 3));
        switch (what) {
            case 0: p.kind = within(v, 0, 6); break;
            case 1: p.mile = within(v, 0, 99); break;
            case 2: p.gives = within(v, 1, 60); break;
            default: p.fails = within(v, 0, 11); break;
        }
        return was;
    }

    private int rule(int what, int v) {
        int[] were = {world.room, world.spills, world.drought, world.hour};
        int was = were[within(what, 0, 3)];
        switch (what) {
            case 0: world.room = within(v, Math.max(1, world.water), 999); break;
            case 1: world.spills = within(v, 0, 99); break;
            case 2: world.drought = within(v, 0, 9); break;
            default: world.hour = within(v, 0, 23); break;
        }
        return was;
    }

    private int water(int v) {
        int was = world.water;
        world.water = barrelOf(v);
        return was;
    }

    private int now(int what) {
        int[] all = {world.mile, world.water, world.store, world.hour, world.day, world.spilt, world.runOff};
        return all[within(what, 0, 6)];
    }

    // ---- carrying

    private int go(int mile) {
        within(mile, 0, 99);
        int spilt = lost(world.mile, mile, world.water);
        int hours = Math.abs(world.mile - mile) / 10;
        world.water -= spilt;
        world.spilt += spilt;
        world.mile = mile;
        for (int i = 0; i < hours; i++) {
            world.hour++;
            if (world.hour == 24) {
                nextDay();
            }
        }
        return world.water;
    }

    private void nextDay() {
        tell(world.day == 999, STATE);
        world.hour = 0;
        world.day++;
        for (Pump p : world.pumps) {
            p.today = false;
        }
    }

    private int run(int pump) {
        Pump p = pumpOf(pump);
        tell(p.mile != world.mile || !can(p), STATE);
        if (p.fails > 0 && draw() % 12 < p.fails) {
            world.water -= needOf(p);
            return world.water;
        }
        int all = world.water - needOf(p) + yieldOf(p);
        world.water = Math.min(all, world.room);
        world.runOff += all - world.water;
        p.used++;
        p.today = true;
        return world.water;
    }

    private int pour() {
        tell(world.mile != 0, STATE);
        int poured = world.water;
        world.store += poured;
        world.water = 0;
        return poured;
    }

    private int fill(int v) {
        within(v, 1, 999);
        tell(world.mile != 0 || world.store < v || world.room - world.water < v, STATE);
        world.store -= v;
        world.water += v;
        return world.water;
    }

    private int night() {
        nextDay();
        return world.day;
    }

    // ---- plans

    private int brings(List<Integer> plan, int w) {
        int mile = world.mile;
        int water = w;
        for (int i : plan) {
            Pump p = world.pumps.get(i);
            water -= lost(mile, p.mile, water);
            mile = p.mile;
            if (can(p, water)) {
                water = behind(p, water);
            }
        }
        return water - lost(mile, 0, water);
    }

    private int row(int w) {
        List<Integer> all = new ArrayList<>();
        for (int i = 0; i < pumps(); i++) {
            all.add(i);
        }
        return brings(all, w);
    }

    private int most(int w) {
        return mostFrom(world.mile, w, 0);
    }

    private int mostFrom(int mile, int water, int came) {
        int most = water - lost(mile, 0, water);
        for (int i = 0; i < pumps(); i++) {
            Pump p = world.pumps.get(i);
            int there = water - lost(mile, p.mile, water);
            if ((came >> i & 1) == 0 && can(p, there)) {
                most = Math.max(most, mostFrom(p.mile, behind(p, there), came | 1 << i));
            }
        }
        return most;
    }

    /** Orders are tried by how many they have, and then by their numbers: the first that brings most is the one. */
    private List<Integer> best(int w) {
        int most = most(w);
        for (int size = 0; size <= pumps(); size++) {
            List<Integer> plan = new ArrayList<>();
            if (complete(plan, size, world.mile, w, most)) {
                return plan;
            }
        }
        throw new IllegalStateException("no plan brings what a plan brings");
    }

    private boolean complete(List<Integer> plan, int size, int mile, int water, int most) {
        if (plan.size() == size) {
            return water - lost(mile, 0, water) == most;
        }
        for (int i = 0; i < pumps(); i++) {
            Pump p = world.pumps.get(i);
            int there = water - lost(mile, p.mile, water);
            if (!plan.contains(i) && can(p, there)) {
                plan.add(i);
                if (complete(plan, size, p.mile, behind(p, there), most)) {
                    return true;
                }
                plan.remove(plan.size() - 1);
            }
        }
        return false;
    }

    private int order(int w, int i) {
        within(i, 0, 7);
        List<Integer> plan = best(w);
        tell(i >= plan.size(), NONE);
        return plan.get(i);
    }

    private int least() {
        for (int w = 0; w <= world.room; w++) {
            if (runsAll(world.mile, w, 0)) {
                return w;
            }
        }
        throw new Finding(NONE);
    }

    private boolean runsAll(int mile, int water, int came) {
        boolean all = came == (1 << pumps()) - 1;
        for (int i = 0; i < pumps() && !all; i++) {
            Pump p = world.pumps.get(i);
            int there = water - lost(mile, p.mile, water);
            all = (came >> i & 1) == 0 && can(p, there) && runsAll(p.mile, behind(p, there), came | 1 << i);
        }
        return all;
    }

    private int leastFor(int v) {
        within(v, 0, 999);
        for (int w = 0; w <= world.room; w++) {
            if (most(w) >= v) {
                return w;
            }
        }
        throw new Finding(NONE);
    }

    private int keep() {
        for (int w = 0; w <= world.room; w++) {
            if (most(w) > w) {
                return w;
            }
        }
        throw new Finding(NONE);
    }

    private int starts(int w) {
        int set = 0;
        for (int i = 0; i < pumps(); i++) {
            Pump p = world.pumps.get(i);
            if (can(p, w - lost(world.mile, p.mile, w))) {
                set |= 1 << i;
            }
        }
        return set;
    }

    private int ring() {
        for (int size = 2; size <= pumps(); size++) {
            for (int set = 0; set < 1 << pumps(); set++) {
                if (Integer.bitCount(set) == size && isRing(set)) {
                    return set;
                }
            }
        }
        throw new Finding(NONE);
    }

    private boolean isRing(int set) {
        for (int i = 0; i < pumps(); i++) {
            Pump first = world.pumps.get(i);
            if ((set >> i & 1) == 1 && can(first, needOf(first))
                    && comesBack(first, first.mile, behind(first, needOf(first)), set & ~(1 << i))) {
                return true;
            }
        }
        return false;
    }

    private boolean comesBack(Pump first, int mile, int water, int rest) {
        if (rest == 0) {
            return water - lost(mile, first.mile, water) >= needOf(first);
        }
        for (int i = 0; i < pumps(); i++) {
            Pump p = world.pumps.get(i);
            int there = water - lost(mile, p.mile, water);
            if ((rest >> i & 1) == 1 && can(p, there)
                    && comesBack(first, p.mile, behind(p, there), rest & ~(1 << i))) {
                return true;
            }
        }
        return false;
    }

    private int mistake(int w, int i) {
        within(i, 0, 7);
        List<Integer> plan = best(w);
        tell(i >= plan.size(), NONE);
        int brought = brings(plan, w);
        plan.remove(i);
        return brought - brings(plan, w);
    }

    private int dear(int w) {
        tell(pumps() == 0, NONE);
        int dear = 0;
        int least = Integer.MAX_VALUE;
        for (int i = 0; i < pumps(); i++) {
            Pump out = world.pumps.remove(i);
            int most = most(w);
            world.pumps.add(i, out);
            if (most < least) {
                least = most;
                dear = i;
            }
        }
        return dear;
    }

    private int spring(int w) {
        tell(pumps() == 8, FULL);
        int where = 0;
        int greatest = -1;
        for (int mile = 0; mile <= 99; mile++) {
            world.pumps.add(new Pump(2, mile, 1, 0));
            int most = most(w);
            world.pumps.remove(pumps() - 1);
            if (most > greatest) {
                greatest = most;
                where = mile;
            }
        }
        return where;
    }

    private int matters(int w) {
        int was = world.spills;
        world.spills = 0;
        int without = most(w);
        int greatest = 0;
        for (int spills = 1; spills <= 99; spills++) {
            world.spills = spills;
            greatest = most(w) < without ? spills : greatest;
        }
        world.spills = was;
        tell(greatest == 0, NONE);
        return greatest;
    }

    private int room(int w) {
        int was = world.room;
        world.room = 999;
        int greatest = most(w);
        world.room = Math.max(1, w);
        while (most(w) < greatest) {
            world.room++;
        }
        int least = world.room;
        world.room = was;
        return least;
    }

    private int bears(int w) {
        int was = world.drought;
        int greatest = -1;
        for (int drought = 0; drought <= 9; drought++) {
            world.drought = drought;
            greatest = most(w) >= w ? drought : greatest;
        }
        world.drought = was;
        tell(greatest == -1, NONE);
        return greatest;
    }

    // ---- odds

    private long odds(int w, int v) {
        within(v, 0, 999);
        long[] parts = brought(w);
        long odds = 0;
        for (int water = v; water < parts.length; water++) {
            odds += parts[water];
        }
        return odds;
    }

    private long mean(int w) {
        long[] parts = brought(w);
        long sum = 0;
        for (int water = 0; water < parts.length; water++) {
            sum += water * parts[water];
        }
        return sum;
    }

    /** By how much comes home: in how many of 12 parts, of 12 again for each pump of the plan. */
    private long[] brought(int w) {
        long[] parts = new long[1000];
        long[] chances = new long[1000];
        chances[w] = 1;
        int mile = world.mile;
        for (int i : best(w)) {
            Pump p = world.pumps.get(i);
            long[] then = new long[1000];
            for (int water = 0; water < 1000; water++) {
                int there = water - lost(mile, p.mile, water);
                if (can(p, there)) {
                    then[there - needOf(p)] += p.fails * chances[water];
                    then[behind(p, there)] += (12 - p.fails) * chances[water];
                } else {
                    then[there] += 12 * chances[water];
                }
            }
            chances = then;
            mile = p.mile;
        }
        for (int water = 0; water < 1000; water++) {
            parts[water - lost(mile, 0, water)] += chances[water];
        }
        return parts;
    }

    private int rust(int n) {
        within(n, 1, 12);
        tell(pumps() == 0, STATE);
        for (int i = 0; i < n; i++) {
            Pump p = world.pumps.get(draw() % pumps());
            p.fails = draw() % 12;
        }
        int any = 0;
        for (Pump p : world.pumps) {
            any += p.fails > 0 ? 1 : 0;
        }
        return any;
    }

    private int seed(int v) {
        int was = world.z;
        world.z = v;
        return was;
    }

    // ---- a list worked back

    private Row rowOf(int s) {
        return rows[within(s, 0, 3)];
    }

    private Row standing(int s) {
        Row row = rowOf(s);
        tell(row == null, MISSING);
        return row;
    }

    private int barrel(int s, int v) {
        List<Integer> plan = new ArrayList<>();
        for (int i : standing(s).numbers) {
            tell(i < 0 || i >= pumps() || plan.contains(i), STATE);
            plan.add(i);
        }
        within(v, 0, 999);
        for (int w = 0; w <= world.room; w++) {
            if (brings(plan, w) == v) {
                return w;
            }
        }
        throw new Finding(NONE);
    }

    private int judge(int s, int w) {
        Row row = standing(s);
        int water = barrelOf(w);
        int mile = world.mile;
        List<Integer> came = new ArrayList<>();
        for (int place = 0; place < row.numbers.length; place++) {
            int i = row.numbers[place];
            if (i < 0 || i >= pumps() || came.contains(i)) {
                return 1 + place;
            }
            Pump p = world.pumps.get(i);
            water -= lost(mile, p.mile, water);
            if (!can(p, water)) {
                return 1 + place;
            }
            water = behind(p, water);
            mile = p.mile;
            came.add(i);
        }
        return 0;
    }

    // ---- texts

    private int feed(int bytes, int n) {
        within(n, 1, 4);
        tell(tape.length() + n > 120, FULL);
        StringBuilder more = new StringBuilder();
        for (int i = 0; i < n; i++) {
            more.insert(0, (char) (bytes >> 8 * i & 255));
        }
        tape = tape + more;
        return tape.length();
    }

    private int wipe() {
        int had = tape.length();
        tape = "";
        return had;
    }

    private int place;

    private int text() {
        World before = world.twin();
        place = 0;
        try {
            int items = 0;
            do {
                item();
                items++;
            } while (perhaps(";"));
            faulty(place + blanks() < tape.length());
            return items;
        } catch (Fault f) {
            world = before;
            return -1 - f.place;
        } finally {
            tape = "";
        }
    }

    private Matcher ahead() {
        Matcher m = TOKEN.matcher(tape).region(place, tape.length());
        if (!m.lookingAt()) {
            throw new IllegalStateException(tape);
        }
        return m;
    }

    private String token() {
        String token = ahead().group(1);
        return token == null ? "" : token;
    }

    private int blanks() {
        Matcher m = ahead();
        return m.end() - m.start() - token().length();
    }

    private void faulty(boolean is) {
        if (is) {
            throw new Fault(place + blanks());
        }
    }

    private boolean perhaps(String word) {
        boolean is = token().equals(word);
        if (is) {
            place = ahead().end();
        }
        return is;
    }

    private int number(int least, int most) {
        String digits = token();
        faulty(!digits.matches("0*[0-9]{1,3}"));
        int number = Integer.parseInt(digits.substring(Math.max(0, digits.length() - 3)));
        faulty(number < least || number > most);
        place = ahead().end();
        return number;
    }

    private void item() {
        if (KINDS.contains(token())) {
            faulty(pumps() == 8);
            newPump(KINDS.indexOf(token()));
        } else if (perhaps("room")) {
            world.room = number(Math.max(1, world.water), 999);
        } else if (perhaps("spills")) {
            world.spills = number(0, 99);
        } else if (perhaps("water")) {
            world.water = number(0, world.room);
        } else if (perhaps("drought")) {
            world.drought = number(0, 9);
        } else {
            faulty(true);
        }
    }

    private void newPump(int kind) {
        perhaps(KINDS.get(kind));
        faulty(!perhaps("at"));
        int mile = number(0, 99);
        int gives = perhaps("gives") ? number(1, 60) : 9;
        int fails = perhaps("fails") ? number(0, 11) : 0;
        world.pumps.add(new Pump(kind, mile, gives, fails));
    }

    // ---- spots, sheets

    private int hold(int spot, int pump) {
        within(spot, 0, 9);
        world.spots[spot] = within(pump, -1, pumps() - 1);
        return 1;
    }

    private int as(int spot, int kind) {
        int held = world.spots[within(spot, 0, 9)];
        within(kind, 0, 6);
        tell(held == -1, MISSING);
        int is = pumpOf(held).kind;
        while (is != kind && is != -1) {
            is = ABOVE[is];
        }
        tell(is == -1, KIND);
        return held;
    }

    private int sheet(int s, int bits, int n) {
        rowOf(s);
        tell(!List.of(0, 8, 16, 32).contains(bits), BEYOND);
        tell(n < 0, SIZE);
        tell(n > 40, BEYOND);
        rows[s] = bits == 0 ? null : new Row(bits, n);
        return bits == 0 ? 0 : n;
    }

    private int write(int s, int i, int v) {
        Row row = standing(s);
        within(i, 0, row.numbers.length - 1);
        row.numbers[i] = v << 32 - row.bits >> 32 - row.bits;
        return 1;
    }

    private int copy(int s, int from, int t, int to, int n) {
        rowOf(s);
        rowOf(t);
        Row one = standing(s);
        Row other = standing(t);
        tell(one.bits != other.bits, KIND);
        tell(from < 0 || to < 0 || n < 0, BEYOND);
        tell((long) from + n > one.numbers.length || (long) to + n > other.numbers.length, BEYOND);
        int[] were = Arrays.copyOf(one.numbers, one.numbers.length);
        for (int i = 0; i < n; i++) {
            other.numbers[to + i] = were[from + i];
        }
        return n;
    }

    private int load(int s) {
        int came = 0;
        for (int v : standing(s).numbers) {
            if (v < 1 || v > 60 || came == pumps()) {
                break;
            }
            world.pumps.get(came).gives = v;
            came++;
        }
        return came;
    }

    // ---- images

    private int image() {
        kept = world.twin();
        return 1;
    }

    private int undo() {
        tell(kept == null, NONE);
        world = kept.twin();
        return pumps();
    }

    private int tear() {
        int was = kept == null ? 0 : 1;
        kept = null;
        return was;
    }

    private int count(int what) {
        int[] all = {pumps(), 0, 0, 0, 0, tape.length(), world.z, 0};
        for (Pump p : world.pumps) {
            all[1] += p.today ? 1 : 0;
            all[2] += p.used;
            all[3] += yieldOf(p);
            all[4] += needOf(p);
        }
        for (int held : world.spots) {
            all[7] += held == -1 ? 0 : 1;
        }
        return all[within(what, 0, 7)];
    }

    private int status(int which) {
        within(which, -1, 6);
        return which == -1 ? Arrays.stream(found).sum() : found[which];
    }
}
