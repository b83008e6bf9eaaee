import java.util.Random;

/** Promises 14 to 33 against a plain search through every order of every choice of pumps, on many roads. */
public final class PlansBySearchTest {
    private static final int NONE = -1000004;
    private static final int FULL = -1000002;
    private static final int STATE = -1000005;

    private static int wrong = 0;
    private static long asked = 0;

    // The road as the search sees it.
    private static int n;
    private static int at;
    private static int room;
    private static int spills;
    private static final int[] mile = new int[9];
    private static final int[] gain = new int[9];
    private static final int[] need = new int[9];
    private static final int[] fails = new int[9];
    private static final boolean[] able = new boolean[9];

    private static int bestBrings;
    private static int bestSize;
    private static final int[] bestPlan = new int[9];
    private static final int[] path = new int[9];

    public static void main(String[] args) {
        Random dice = new Random(20261117);
        for (int trial = 0; trial < 700; trial++) {
            PrimedPumps x = new PrimedPumps();
            layOut(x, dice, dice.nextInt(5), trial);
            askAll(x, dice, trial, true);
        }
        for (int trial = 700; trial < 760; trial++) {
            PrimedPumps x = new PrimedPumps();
            layOut(x, dice, 5 + dice.nextInt(2), trial);
            askAll(x, dice, trial, false);
        }
        for (int trial = 760; trial < 764; trial++) {
            PrimedPumps x = new PrimedPumps();
            layOut(x, dice, 8, trial);
            see(x);
            int w = dice.nextInt(room + 1);
            askPlan(x, w, trial);
            due(trial, "spring", x.spring(w), FULL);
        }
        for (int trial = 764; trial < 6764; trial++) {
            askKeepFromAway(dice, trial);
        }
        System.out.println(asked + " answers asked, " + wrong + " wrong");
        if (wrong != 0) {
            System.exit(1);
        }
    }

    private static void due(int trial, String call, long got, long want) {
        asked++;
        if (got != want) {
            wrong++;
            System.out.println("trial " + trial + ": " + call + " answered " + got + ", due is " + want);
        }
    }

    private static void layOut(PrimedPumps x, Random dice, int pumps, int trial) {
        int far = trial % 3 == 0 ? 99 : trial % 3 == 1 ? 12 : 30;
        int givesMost = trial % 2 == 0 ? 60 : 9;
        for (int p = 0; p < pumps; p++) {
            x.pump(dice.nextInt(7), dice.nextInt(far + 1), 1 + dice.nextInt(givesMost));
            x.change(p, 3, dice.nextInt(3) == 0 ? 0 : dice.nextInt(12));
        }
        room = trial % 10 == 9 ? 200 : 1 + dice.nextInt(70);
        spills = dice.nextInt(5) == 0 ? 0 : 1 + dice.nextInt(trial % 4 == 0 ? 99 : 7);
        x.rule(0, room);
        x.rule(1, spills);
        x.rule(2, dice.nextInt(3) == 0 ? dice.nextInt(10) : 0);
        wearDown(x, dice, pumps);
        x.rule(3, dice.nextInt(24));
        x.go(dice.nextBoolean() ? dice.nextInt(far + 1) : 0);
    }

    /** Some pumps have run on earlier days, some have run today. */
    private static void wearDown(PrimedPumps x, Random dice, int pumps) {
        for (int i = 0; i < 4 && pumps > 0; i++) {
            int p = dice.nextInt(pumps);
            x.go(x.of(p, 1));
            x.water(Math.min(x.of(p, 7), room));
            x.run(p);
            if (dice.nextInt(3) > 0) {
                x.night();
            }
        }
        x.water(0);
    }

    private static void see(PrimedPumps x) {
        n = x.count(0);
        at = x.now(0);
        for (int p = 0; p < n; p++) {
            mile[p] = x.of(p, 1);
            need[p] = x.of(p, 7);
            gain[p] = x.of(p, 6);
            fails[p] = x.of(p, 3);
            able[p] = x.of(p, 5) == 0 && x.of(p, 6) > 0;
        }
    }

    private static int gone(int water, int a, int b) {
        return spills == 0 ? water : Math.max(0, water - Math.abs(a - b) / spills);
    }

    private static int ran(int p, int water) {
        return Math.min(room, water - need[p] + gain[p]);
    }

    private static boolean can(int p, int water) {
        return able[p] && water >= need[p];
    }

    private static int search(int w) {
        bestBrings = -1;
        search(0, 0, at, w);
        return bestBrings;
    }

    private static void search(int size, int came, int place, int water) {
        int home = gone(water, place, 0);
        if (home > bestBrings || home == bestBrings && (size < bestSize || size == bestSize && pathComesFirst(size))) {
            bestBrings = home;
            bestSize = size;
            System.arraycopy(path, 0, bestPlan, 0, size);
        }
        for (int p = 0; p < n; p++) {
            int there = gone(water, place, mile[p]);
            if ((came >> p & 1) == 0 && can(p, there)) {
                path[size] = p;
                search(size + 1, came | 1 << p, mile[p], ran(p, there));
            }
        }
    }

    private static boolean pathComesFirst(int size) {
        for (int i = 0; i < size; i++) {
            if (path[i] != bestPlan[i]) {
                return path[i] < bestPlan[i];
            }
        }
        return false;
    }

    private static boolean runsAll(int came, int place, int water) {
        if (came == (1 << n) - 1) {
            return true;
        }
        for (int p = 0; p < n; p++) {
            int there = gone(water, place, mile[p]);
            if ((came >> p & 1) == 0 && can(p, there) && runsAll(came | 1 << p, mile[p], ran(p, there))) {
                return true;
            }
        }
        return false;
    }

    private static boolean closes(int set, int first, int came, int last, int water) {
        if (came == set) {
            return gone(water, mile[last], mile[first]) >= need[first];
        }
        for (int p = 0; p < n; p++) {
            int there = gone(water, mile[last], mile[p]);
            if ((set >> p & 1) == 1 && (came >> p & 1) == 0 && can(p, there)
                    && closes(set, first, came | 1 << p, p, ran(p, there))) {
                return true;
            }
        }
        return false;
    }

    private static int ring() {
        for (int size = 2; size <= n; size++) {
            for (int set = 1; set < 1 << n; set++) {
                for (int first = 0; Integer.bitCount(set) == size && first < n; first++) {
                    if ((set >> first & 1) == 1 && able[first]
                            && closes(set, first, 1 << first, first, Math.min(room, gain[first]))) {
                        return set;
                    }
                }
            }
        }
        return NONE;
    }

    private static int brings(int[] plan, int size, int leftOut, int w) {
        int place = at;
        int water = w;
        for (int i = 0; i < size; i++) {
            if (i != leftOut) {
                water = gone(water, place, mile[plan[i]]);
                place = mile[plan[i]];
                if (can(plan[i], water)) {
                    water = ran(plan[i], water);
                }
            }
        }
        return gone(water, place, 0);
    }

    /** v below 0: the sum of what comes home times its parts. */
    private static long parts(int[] plan, int size, int i, int place, int water, int v) {
        if (i == size) {
            int home = gone(water, place, 0);
            return v < 0 ? home : home >= v ? 1 : 0;
        }
        int p = plan[i];
        int there = gone(water, place, mile[p]);
        if (!can(p, there)) {
            return 12 * parts(plan, size, i + 1, mile[p], there, v);
        }
        return fails[p] * parts(plan, size, i + 1, mile[p], there - need[p], v)
            + (12 - fails[p]) * parts(plan, size, i + 1, mile[p], ran(p, there), v);
    }

    private static void askPlan(PrimedPumps x, int w, int trial) {
        due(trial, "most " + w, x.most(w), search(w));
        int size = bestSize;
        int[] plan = bestPlan.clone();
        for (int i = 0; i < 8; i++) {
            due(trial, "order " + w + " " + i, x.order(w, i), i < size ? plan[i] : NONE);
            due(trial, "mistake " + w + " " + i, x.mistake(w, i),
                i < size ? brings(plan, size, -1, w) - brings(plan, size, i, w) : NONE);
        }
        int[] values = {0, 1, bestBrings - 1, bestBrings, bestBrings + 1, 999};
        for (int v : values) {
            if (v >= 0 && v <= 999) {
                due(trial, "odds " + w + " " + v, x.odds(w, v), parts(plan, size, 0, at, w, v));
            }
        }
        due(trial, "mean " + w, x.mean(w), parts(plan, size, 0, at, w, -1));
        int starts = 0;
        for (int p = 0; p < n; p++) {
            starts |= can(p, gone(w, at, mile[p])) ? 1 << p : 0;
        }
        due(trial, "starts " + w, x.starts(w), starts);
        int[] all = {0, 1, 2, 3, 4, 5, 6, 7};
        due(trial, "row " + w, x.row(w), brings(all, n, -1, w));
    }

    private static void askAll(PrimedPumps x, Random dice, int trial, boolean allMiles) {
        see(x);
        for (int i = 0; i < 3; i++) {
            askPlan(x, i == 0 ? 0 : i == 1 ? room : dice.nextInt(room + 1), trial);
        }
        askOverall(x, dice, trial);
        int w = dice.nextInt(room + 1);
        askDear(x, w, trial);
        askSpills(x, w, trial);
        askRoom(x, w, trial);
        askDrought(x, w, trial);
        if (allMiles) {
            askSpring(x, w, trial);
        }
        askSheet(x, dice, trial);
    }

    private static void askOverall(PrimedPumps x, Random dice, int trial) {
        int least = NONE;
        int keep = NONE;
        int v = dice.nextInt(room + 3);
        int leastFor = NONE;
        for (int w = room; w >= 0; w--) {
            least = runsAll(0, at, w) ? w : least;
            int most = search(w);
            keep = most > w ? w : keep;
            leastFor = most >= v ? w : leastFor;
        }
        due(trial, "least", x.least(), least);
        due(trial, "keep", x.keep(), keep);
        due(trial, "leastFor " + v, x.leastFor(v), leastFor);
        due(trial, "ring", x.ring(), ring());
    }

    /** Few pumps, some that take more than they give, and the carrier anywhere: where keep() could stop too early. */
    private static void askKeepFromAway(Random dice, int trial) {
        PrimedPumps x = new PrimedPumps();
        int far = new int[] {4, 15, 40, 100}[dice.nextInt(4)];
        int givesMost = new int[] {3, 12, 60}[dice.nextInt(3)];
        int pumps = 1 + dice.nextInt(3);
        for (int p = 0; p < pumps; p++) {
            x.pump(dice.nextBoolean() ? 6 : dice.nextInt(7), dice.nextInt(far), 1 + dice.nextInt(givesMost));
        }
        room = 1 + dice.nextInt(dice.nextBoolean() ? 200 : 40);
        spills = dice.nextInt(7);
        x.rule(0, room);
        x.rule(1, spills);
        x.go(dice.nextBoolean() ? 0 : dice.nextInt(far));
        x.rule(3, dice.nextInt(12));
        see(x);
        int keep = NONE;
        for (int w = 0; w <= room && keep == NONE; w++) {
            keep = search(w) > w ? w : keep;
        }
        due(trial, "keep", x.keep(), keep);
    }

    private static void askDear(PrimedPumps x, int w, int trial) {
        int dear = NONE;
        int least = 1000;
        for (int p = 0; p < n; p++) {
            boolean was = able[p];
            able[p] = false;
            if (search(w) < least) {
                least = search(w);
                dear = p;
            }
            able[p] = was;
        }
        due(trial, "dear " + w, x.dear(w), dear);
    }

    private static void askSpills(PrimedPumps x, int w, int trial) {
        int was = spills;
        spills = 0;
        int top = search(w);
        int greatest = NONE;
        for (spills = 1; spills <= 99; spills++) {
            greatest = search(w) < top ? spills : greatest;
        }
        spills = was;
        due(trial, "matters " + w, x.matters(w), greatest);
    }

    private static void askRoom(PrimedPumps x, int w, int trial) {
        int was = room;
        room = 999;
        int top = search(w);
        room = Math.max(1, w);
        while (search(w) < top) {
            room++;
        }
        due(trial, "room " + w, x.room(w), room);
        room = was;
    }

    private static void askDrought(PrimedPumps x, int w, int trial) {
        int greatest = NONE;
        int was = x.rule(2, 0);
        for (int drought = 0; drought <= 9; drought++) {
            x.rule(2, drought);
            see(x);
            greatest = search(w) >= w ? drought : greatest;
        }
        x.rule(2, was);
        see(x);
        due(trial, "bears " + w, x.bears(w), greatest);
    }

    private static void askSpring(PrimedPumps x, int w, int trial) {
        able[n] = true;
        need[n] = 0;
        gain[n] = 1;
        n++;
        int best = -1;
        int where = 0;
        for (int m = 0; m <= 99; m++) {
            mile[n - 1] = m;
            int got = search(w);
            if (got > best) {
                best = got;
                where = m;
            }
        }
        n--;
        due(trial, "spring " + w, x.spring(w), where);
    }

    private static void askSheet(PrimedPumps x, Random dice, int trial) {
        int length = dice.nextInt(n + 2);
        int[] numbers = new int[length];
        int came = 0;
        boolean unlike = true;
        x.sheet(1, 8 << dice.nextInt(3), length);
        for (int i = 0; i < length; i++) {
            numbers[i] = dice.nextInt(n + 1);
            for (int tries = 0; tries < 9 && n > 0 && (came >> numbers[i] & 1) == 1 && dice.nextInt(6) > 0; tries++) {
                numbers[i] = dice.nextInt(n);
            }
            unlike &= numbers[i] < n && (came >> numbers[i] & 1) == 0;
            came |= 1 << numbers[i];
            x.write(1, i, numbers[i]);
        }
        for (int v = 0; v <= room + 1; v += 1 + dice.nextInt(9)) {
            int least = unlike ? NONE : STATE;
            for (int w = room; unlike && w >= 0; w--) {
                least = brings(numbers, length, -1, w) == v ? w : least;
            }
            due(trial, "barrel " + v, x.barrel(1, v), least);
        }
        for (int w = 0; w <= room; w += 1 + dice.nextInt(9)) {
            due(trial, "judge " + w, x.judge(1, w), judged(numbers, length, w));
        }
    }

    private static int judged(int[] numbers, int length, int w) {
        int place = at;
        int water = w;
        int came = 0;
        for (int i = 0; i < length; i++) {
            int p = numbers[i];
            if (p >= n || (came >> p & 1) == 1) {
                return 1 + i;
            }
            water = gone(water, place, mile[p]);
            if (!can(p, water)) {
                return 1 + i;
            }
            water = ran(p, water);
            place = mile[p];
            came |= 1 << p;
        }
        return 0;
    }
}
