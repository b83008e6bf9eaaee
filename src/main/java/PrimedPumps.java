/** A road with pumps that must be primed, and a carrier who brings water to the village. */
public final class PrimedPumps {
    private static final int LOW = -1000001;
    private static final int BEYOND = 0;
    private static final int FULL = 1;
    private static final int KIND = 2;
    private static final int NONE = 3;
    private static final int STATE = 4;
    private static final int MISSING = 5;
    private static final int SIZE = 6;
    private static final int FINDINGS = 7;

    private static final int MOST_PUMPS = 8;
    private static final int MOST_KIND = 6;
    private static final int MOST_MILE = 99;
    private static final int MOST_GIVES = 60;
    private static final int MOST_FAILS = 11;
    private static final int MOST_ROOM = 999;
    private static final int MOST_SPILLS = 99;
    private static final int MOST_DROUGHT = 9;
    private static final int MOST_DAY = 999;
    private static final int MOST_RUST = 12;
    private static final int MOST_TOLD = 999;
    private static final int HOURS = 24;
    private static final int TWELFTHS = 12;
    private static final int SPOTS = 10;
    private static final int SHEETS = 4;
    private static final int MOST_NUMBERS = 40;
    private static final int MOST_BYTES = 120;
    private static final int NOTHING = -1;

    private static final int PUMP = 0;
    private static final int DEEP = 1;
    private static final int SPRING = 2;
    private static final int TIRED = 3;
    private static final int SHARED = 4;
    private static final int MORNING = 5;
    private static final int FAINT = 6;
    private static final int[] KIND_ABOVE = {NOTHING, PUMP, PUMP, PUMP, DEEP, PUMP, TIRED};

    private final Road road = new Road();
    private final Road kept = new Road();
    private final Road draft = new Road();
    private boolean imageStands = false;
    private final Tape tape = new Tape();
    private final Sheet[] sheets = new Sheet[SHEETS];
    private final int[] found = new int[FINDINGS];
    private final Planner planner = new Planner();

    public PrimedPumps() {
        for (int s = 0; s < SHEETS; s++) {
            sheets[s] = new Sheet();
        }
    }

    // ---- the road

    public int pump(int kind, int mile, int gives) {
        if (outside(kind, 0, MOST_KIND) || outside(mile, 0, MOST_MILE) || outside(gives, 1, MOST_GIVES)) {
            return finding(BEYOND);
        }
        if (road.isFull()) {
            return finding(FULL);
        }
        road.add(kind, mile, gives, 0);
        return road.size - 1;
    }

    public int of(int pump, int what) {
        if (!road.has(pump)) {
            return finding(BEYOND);
        }
        Pump p = road.pumps[pump];
        switch (what) {
            case 0: return p.kind;
            case 1: return p.mile;
            case 2: return p.gives;
            case 3: return p.fails;
            case 4: return p.used;
            case 5: return p.today ? 1 : 0;
            case 6: return road.yieldOf(pump);
            case 7: return road.needOf(pump);
            default: return finding(BEYOND);
        }
    }

    public int change(int pump, int what, int v) {
        if (!road.has(pump) || outside(what, 0, 3) || outside(v, leastTrait(what), mostTrait(what))) {
            return finding(BEYOND);
        }
        Pump p = road.pumps[pump];
        int was;
        if (what == 0) {
            was = p.kind;
            p.kind = v;
        } else if (what == 1) {
            was = p.mile;
            p.mile = v;
        } else if (what == 2) {
            was = p.gives;
            p.gives = v;
        } else {
            was = p.fails;
            p.fails = v;
        }
        return was;
    }

    private static int leastTrait(int what) {
        return what == 2 ? 1 : 0;
    }

    private static int mostTrait(int what) {
        switch (what) {
            case 0: return MOST_KIND;
            case 1: return MOST_MILE;
            case 2: return MOST_GIVES;
            default: return MOST_FAILS;
        }
    }

    public int rule(int what, int v) {
        if (outside(what, 0, 3) || outside(v, leastRule(what), mostRule(what))) {
            return finding(BEYOND);
        }
        int was;
        if (what == 0) {
            was = road.room;
            road.room = v;
        } else if (what == 1) {
            was = road.spills;
            road.spills = v;
        } else if (what == 2) {
            was = road.drought;
            road.drought = v;
        } else {
            was = road.hour;
            road.hour = v;
        }
        return was;
    }

    private int leastRule(int what) {
        return what == 0 ? road.leastRoom() : 0;
    }

    private static int mostRule(int what) {
        switch (what) {
            case 0: return MOST_ROOM;
            case 1: return MOST_SPILLS;
            case 2: return MOST_DROUGHT;
            default: return HOURS - 1;
        }
    }

    public int water(int v) {
        if (notCarried(v)) {
            return finding(BEYOND);
        }
        int was = road.water;
        road.water = v;
        return was;
    }

    public int now(int what) {
        switch (what) {
            case 0: return road.at;
            case 1: return road.water;
            case 2: return road.store;
            case 3: return road.hour;
            case 4: return road.day;
            case 5: return road.spilt;
            case 6: return road.ranOff;
            default: return finding(BEYOND);
        }
    }

    // ---- carrying

    public int go(int mile) {
        if (outside(mile, 0, MOST_MILE)) {
            return finding(BEYOND);
        }
        int hour = road.hour + Math.abs(road.at - mile) / 10;
        if (hour >= HOURS && road.day >= MOST_DAY) {
            return finding(STATE);
        }
        road.carryTo(mile);
        if (hour >= HOURS) {
            road.beginDay(hour - HOURS);
        } else {
            road.hour = hour;
        }
        return road.water;
    }

    public int run(int pump) {
        if (!road.has(pump)) {
            return finding(BEYOND);
        }
        if (road.pumps[pump].mile != road.at || !road.canRun(pump)) {
            return finding(STATE);
        }
        road.tryPump(pump);
        return road.water;
    }

    public int can(int pump) {
        if (!road.has(pump)) {
            return finding(BEYOND);
        }
        return road.canRun(pump) ? 1 : 0;
    }

    public int pour() {
        if (road.at != 0) {
            return finding(STATE);
        }
        int poured = road.water;
        road.store += poured;
        road.water = 0;
        return poured;
    }

    public int fill(int v) {
        if (outside(v, 1, MOST_ROOM)) {
            return finding(BEYOND);
        }
        if (road.at != 0 || road.store < v || road.water + v > road.room) {
            return finding(STATE);
        }
        road.store -= v;
        road.water += v;
        return road.water;
    }

    public int night() {
        if (road.day >= MOST_DAY) {
            return finding(STATE);
        }
        road.beginDay(0);
        return road.day;
    }

    // ---- plans

    public int row(int w) {
        if (notCarried(w)) {
            return finding(BEYOND);
        }
        planner.lay(road, road.drought);
        planner.planAll();
        return planner.planBrings(w, NOTHING);
    }

    public int most(int w) {
        if (notCarried(w)) {
            return finding(BEYOND);
        }
        planner.lay(road, road.drought);
        return planner.mostWith(w);
    }

    public int order(int w, int i) {
        if (notCarried(w) || outside(i, 0, MOST_PUMPS - 1)) {
            return finding(BEYOND);
        }
        planner.lay(road, road.drought);
        planner.planBest(w);
        return i < planner.planned ? planner.plan[i] : finding(NONE);
    }

    public int least() {
        planner.lay(road, road.drought);
        return carriedOrNone(planner.leastStart(0, road.size));
    }

    public int leastFor(int v) {
        if (outside(v, 0, MOST_TOLD)) {
            return finding(BEYOND);
        }
        planner.lay(road, road.drought);
        return carriedOrNone(planner.leastStart(v, Planner.ANY));
    }

    public int keep() {
        planner.lay(road, road.drought);
        return carriedOrNone(planner.leastGaining());
    }

    public int starts(int w) {
        if (notCarried(w)) {
            return finding(BEYOND);
        }
        planner.lay(road, road.drought);
        return planner.firsts(w);
    }

    public int ring() {
        planner.lay(road, road.drought);
        int set = planner.smallestRing();
        return set == 0 ? finding(NONE) : set;
    }

    public int mistake(int w, int i) {
        if (notCarried(w) || outside(i, 0, MOST_PUMPS - 1)) {
            return finding(BEYOND);
        }
        planner.lay(road, road.drought);
        planner.planBest(w);
        if (i >= planner.planned) {
            return finding(NONE);
        }
        return planner.planBrings(w, NOTHING) - planner.planBrings(w, i);
    }

    public int dear(int w) {
        if (notCarried(w)) {
            return finding(BEYOND);
        }
        if (road.size == 0) {
            return finding(NONE);
        }
        planner.lay(road, road.drought);
        return planner.dearest(w);
    }

    public int spring(int w) {
        if (notCarried(w)) {
            return finding(BEYOND);
        }
        if (road.isFull()) {
            return finding(FULL);
        }
        planner.lay(road, road.drought);
        return planner.bestSpring(w);
    }

    public int matters(int w) {
        if (notCarried(w)) {
            return finding(BEYOND);
        }
        planner.lay(road, road.drought);
        int spills = planner.greatestSpillsThatCost(w);
        return spills == 0 ? finding(NONE) : spills;
    }

    public int room(int w) {
        if (notCarried(w)) {
            return finding(BEYOND);
        }
        planner.lay(road, road.drought);
        return planner.leastRoomForMost(w);
    }

    public int bears(int w) {
        if (notCarried(w)) {
            return finding(BEYOND);
        }
        for (int drought = MOST_DROUGHT; drought >= 0; drought--) {
            planner.lay(road, drought);
            if (planner.mostWith(w) >= w) {
                return drought;
            }
        }
        return finding(NONE);
    }

    // ---- odds

    public long odds(int w, int v) {
        if (notCarried(w) || outside(v, 0, MOST_TOLD)) {
            return finding(BEYOND);
        }
        planner.lay(road, road.drought);
        planner.planBest(w);
        return planner.partsBringing(w, v);
    }

    public long mean(int w) {
        if (notCarried(w)) {
            return finding(BEYOND);
        }
        planner.lay(road, road.drought);
        planner.planBest(w);
        return planner.sumBrought(w);
    }

    public int rust(int n) {
        if (outside(n, 1, MOST_RUST)) {
            return finding(BEYOND);
        }
        if (road.size == 0) {
            return finding(STATE);
        }
        for (int i = 0; i < n; i++) {
            int pump = road.draw() % road.size;
            road.pumps[pump].fails = road.draw() % TWELFTHS;
        }
        int rusty = 0;
        for (int p = 0; p < road.size; p++) {
            if (road.pumps[p].fails > 0) {
                rusty++;
            }
        }
        return rusty;
    }

    public int seed(int v) {
        int was = road.z;
        road.z = v;
        return was;
    }

    // ---- a list worked back

    public int barrel(int s, int v) {
        if (noSuchSheet(s)) {
            return finding(BEYOND);
        }
        if (sheets[s].isMissing()) {
            return finding(MISSING);
        }
        planner.lay(road, road.drought);
        if (!planner.planFrom(sheets[s])) {
            return finding(STATE);
        }
        if (outside(v, 0, MOST_TOLD)) {
            return finding(BEYOND);
        }
        for (int w = 0; w <= road.room; w++) {
            if (planner.planBrings(w, NOTHING) == v) {
                return w;
            }
        }
        return finding(NONE);
    }

    public int judge(int s, int w) {
        if (noSuchSheet(s)) {
            return finding(BEYOND);
        }
        if (sheets[s].isMissing()) {
            return finding(MISSING);
        }
        if (notCarried(w)) {
            return finding(BEYOND);
        }
        planner.lay(road, road.drought);
        int runs = planner.runsInARow(sheets[s], w);
        return runs == sheets[s].length ? 0 : 1 + runs;
    }

    // ---- texts

    public int feed(int bytes, int n) {
        if (outside(n, 1, 4)) {
            return finding(BEYOND);
        }
        if (tape.length + n > MOST_BYTES) {
            return finding(FULL);
        }
        for (int i = n - 1; i >= 0; i--) {
            tape.add(bytes >>> (8 * i));
        }
        return tape.length;
    }

    public int wipe() {
        int had = tape.length;
        tape.length = 0;
        return had;
    }

    public int text() {
        // Items build on one another, so they are tried on a draft that a fault throws away whole.
        draft.take(road);
        int items = tape.readOnto(draft);
        tape.length = 0;
        if (items >= 0) {
            road.take(draft);
        }
        return items;
    }

    // ---- spots, sheets

    public int hold(int spot, int pump) {
        if (outside(spot, 0, SPOTS - 1) || (pump != NOTHING && !road.has(pump))) {
            return finding(BEYOND);
        }
        road.spots[spot] = pump;
        return 1;
    }

    public int as(int spot, int kind) {
        if (outside(spot, 0, SPOTS - 1) || outside(kind, 0, MOST_KIND)) {
            return finding(BEYOND);
        }
        int pump = road.spots[spot];
        if (!road.has(pump)) {
            return finding(MISSING);
        }
        return road.pumps[pump].isOf(kind) ? pump : finding(KIND);
    }

    public int sheet(int s, int bits, int n) {
        if (noSuchSheet(s) || (bits != 0 && bits != 8 && bits != 16 && bits != 32)) {
            return finding(BEYOND);
        }
        if (n < 0) {
            return finding(SIZE);
        }
        if (n > MOST_NUMBERS) {
            return finding(BEYOND);
        }
        sheets[s].begin(bits, bits == 0 ? 0 : n);
        return sheets[s].length;
    }

    public int write(int s, int i, int v) {
        if (noSuchSheet(s)) {
            return finding(BEYOND);
        }
        if (sheets[s].isMissing()) {
            return finding(MISSING);
        }
        if (outside(i, 0, sheets[s].length - 1)) {
            return finding(BEYOND);
        }
        sheets[s].put(i, v);
        return 1;
    }

    public int copy(int s, int from, int t, int to, int n) {
        if (noSuchSheet(s) || noSuchSheet(t)) {
            return finding(BEYOND);
        }
        if (sheets[s].isMissing() || sheets[t].isMissing()) {
            return finding(MISSING);
        }
        if (sheets[s].bits != sheets[t].bits) {
            return finding(KIND);
        }
        if (!sheets[s].hasRun(from, n) || !sheets[t].hasRun(to, n)) {
            return finding(BEYOND);
        }
        System.arraycopy(sheets[s].numbers, from, sheets[t].numbers, to, n);
        return n;
    }

    public int load(int s) {
        if (noSuchSheet(s)) {
            return finding(BEYOND);
        }
        if (sheets[s].isMissing()) {
            return finding(MISSING);
        }
        int came = 0;
        int most = Math.min(sheets[s].length, road.size);
        for (int i = 0; i < most && !outside(sheets[s].numbers[i], 1, MOST_GIVES); i++) {
            road.pumps[i].gives = sheets[s].numbers[i];
            came++;
        }
        return came;
    }

    // ---- images

    public int image() {
        kept.take(road);
        imageStands = true;
        return 1;
    }

    public int undo() {
        if (!imageStands) {
            return finding(NONE);
        }
        road.take(kept);
        return road.size;
    }

    public int tear() {
        int was = imageStands ? 1 : 0;
        imageStands = false;
        return was;
    }

    public int count(int what) {
        switch (what) {
            case 0: return road.size;
            case 1:
            case 2:
            case 3:
            case 4: return road.sumOf(what);
            case 5: return tape.length;
            case 6: return road.z;
            case 7: return road.heldSpots();
            default: return finding(BEYOND);
        }
    }

    public int status(int which) {
        if (outside(which, -1, FINDINGS - 1)) {
            return finding(BEYOND);
        }
        if (which >= 0) {
            return found[which];
        }
        int all = 0;
        for (int f = 0; f < FINDINGS; f++) {
            all += found[f];
        }
        return all;
    }

    // ---- what the calls share

    /** Every finding goes through here, as z or a difference may look like one and is none. */
    private int finding(int which) {
        found[which]++;
        return LOW - which;
    }

    private static boolean outside(int v, int least, int most) {
        return v < least || v > most;
    }

    private boolean notCarried(int w) {
        return outside(w, 0, road.room);
    }

    private int carriedOrNone(int w) {
        return w > road.room ? finding(NONE) : w;
    }

    private static boolean noSuchSheet(int s) {
        return outside(s, 0, SHEETS - 1);
    }

    private static int spiltBetween(int a, int b, int spills) {
        return spills == 0 ? 0 : Math.abs(a - b) / spills;
    }

    /** One pump. */
    private static final class Pump {
        int kind;
        int mile;
        int gives;
        int fails;
        int used;
        boolean today;

        void take(Pump other) {
            kind = other.kind;
            mile = other.mile;
            gives = other.gives;
            fails = other.fails;
            used = other.used;
            today = other.today;
        }

        int yieldsAt(int drought, int hour) {
            int plain = Math.max(0, gives - drought);
            switch (kind) {
                case SPRING: return 1;
                case SHARED: return plain / 2;
                case TIRED: return Math.max(0, plain - used);
                case FAINT: return hour >= 12 ? 0 : Math.max(0, plain - used);
                case MORNING: return hour < 9 ? plain + 3 : plain;
                default: return plain;
            }
        }

        int needsFor(int yields) {
            switch (kind) {
                case SPRING: return 0;
                case DEEP:
                case SHARED: return (yields + 1) / 2;
                case FAINT: return (yields + 2) / 3 + 1;
                default: return (yields + 2) / 3;
            }
        }

        boolean isOf(int wanted) {
            int above = kind;
            for (int step = 0; step <= MOST_KIND && above != NOTHING; step++) {
                if (above == wanted) {
                    return true;
                }
                above = KIND_ABOVE[above];
            }
            return false;
        }
    }

    /** All that an image keeps: the pumps, the carrier, the village, the time, z and the spots. */
    private static final class Road {
        final Pump[] pumps = new Pump[MOST_PUMPS];
        final int[] spots = new int[SPOTS];
        int size = 0;
        int at = 0;
        int water = 0;
        int store = 0;
        int room = 40;
        int spills = 5;
        int drought = 0;
        int hour = 0;
        int day = 0;
        int spilt = 0;
        int ranOff = 0;
        int z = 1;

        Road() {
            for (int p = 0; p < MOST_PUMPS; p++) {
                pumps[p] = new Pump();
            }
            for (int s = 0; s < SPOTS; s++) {
                spots[s] = NOTHING;
            }
        }

        void take(Road other) {
            for (int p = 0; p < MOST_PUMPS; p++) {
                pumps[p].take(other.pumps[p]);
            }
            System.arraycopy(other.spots, 0, spots, 0, SPOTS);
            size = other.size;
            at = other.at;
            water = other.water;
            store = other.store;
            room = other.room;
            spills = other.spills;
            drought = other.drought;
            hour = other.hour;
            day = other.day;
            spilt = other.spilt;
            ranOff = other.ranOff;
            z = other.z;
        }

        boolean has(int pump) {
            return pump >= 0 && pump < size;
        }

        boolean isFull() {
            return size >= MOST_PUMPS;
        }

        int leastRoom() {
            return Math.max(1, water);
        }

        /** The caller has asked whether the road is full. */
        void add(int kind, int mile, int gives, int fails) {
            Pump fresh = pumps[size];
            fresh.kind = kind;
            fresh.mile = mile;
            fresh.gives = gives;
            fresh.fails = fails;
            fresh.used = 0;
            fresh.today = false;
            size++;
        }

        int yieldOf(int pump) {
            return pumps[pump].yieldsAt(drought, hour);
        }

        int needOf(int pump) {
            return pumps[pump].needsFor(yieldOf(pump));
        }

        boolean canRun(int pump) {
            return !pumps[pump].today && yieldOf(pump) > 0 && water >= needOf(pump);
        }

        int draw() {
            z = z * 1103515245 + 12345;
            return z >>> 8;
        }

        void carryTo(int mile) {
            int lost = Math.min(water, spiltBetween(at, mile, spills));
            water -= lost;
            spilt += lost;
            at = mile;
        }

        void beginDay(int atHour) {
            day++;
            hour = atHour;
            for (int p = 0; p < size; p++) {
                pumps[p].today = false;
            }
        }

        /** The caller has asked whether it can be run. */
        void tryPump(int pump) {
            Pump p = pumps[pump];
            int yields = yieldOf(pump);
            water -= needOf(pump);
            if (p.fails > 0 && draw() % TWELFTHS < p.fails) {
                return;
            }
            int over = Math.max(0, water + yields - room);
            water += yields - over;
            ranOff += over;
            p.used++;
            p.today = true;
        }

        /** What count() is asked for: 1 TODAY, 2 USED, 3 YIELD, 4 NEED. */
        int sumOf(int what) {
            int sum = 0;
            for (int p = 0; p < size; p++) {
                switch (what) {
                    case 1: sum += pumps[p].today ? 1 : 0; break;
                    case 2: sum += pumps[p].used; break;
                    case 3: sum += yieldOf(p); break;
                    default: sum += needOf(p); break;
                }
            }
            return sum;
        }

        int heldSpots() {
            int held = 0;
            for (int s = 0; s < SPOTS; s++) {
                if (spots[s] != NOTHING) {
                    held++;
                }
            }
            return held;
        }
    }

    /** A row of numbers; no bits: it is missing. */
    private static final class Sheet {
        final int[] numbers = new int[MOST_NUMBERS];
        int bits = 0;
        int length = 0;

        boolean isMissing() {
            return bits == 0;
        }

        void begin(int newBits, int newLength) {
            bits = newBits;
            length = newLength;
            for (int i = 0; i < MOST_NUMBERS; i++) {
                numbers[i] = 0;
            }
        }

        void put(int i, int v) {
            if (bits == 8) {
                numbers[i] = (byte) v;
            } else if (bits == 16) {
                numbers[i] = (short) v;
            } else {
                numbers[i] = v;
            }
        }

        boolean hasRun(int from, int n) {
            return from >= 0 && n >= 0 && n <= length - from;
        }
    }

    /** The tape, and the reader of the text on it. */
    private static final class Tape {
        private static final int WORD = 0;
        private static final int NUMBER = 1;
        private static final int SIGN = 2;
        private static final int END = 3;
        private static final int FALSE_BYTE = 4;
        private static final int MOST_NUMBER = 999;

        final int[] bytes = new int[MOST_BYTES];
        int length = 0;
        int token = END;
        int begin = 0;
        int behind = 0;
        int number = 0;

        /** The caller has asked whether there is place. */
        void add(int v) {
            bytes[length] = v & 255;
            length++;
        }

        /** How many items came onto the road, or -1 less the fault. */
        int readOnto(Road road) {
            behind = 0;
            next();
            for (int items = 1; items <= MOST_BYTES; items++) {
                if (!readItem(road)) {
                    return -1 - begin;
                }
                if (token == END) {
                    return items;
                }
                if (token != SIGN) {
                    return -1 - begin;
                }
                next();
            }
            return -1 - begin;
        }

        /** Where it answers no, the token that can't stand there is the one now read. */
        private boolean readItem(Road road) {
            int kind = kindTold();
            if (kind != NOTHING) {
                return !road.isFull() && readPump(road, kind);
            }
            if (isWord("room")) {
                if (!readNumber(road.leastRoom(), MOST_ROOM)) {
                    return false;
                }
                road.room = number;
            } else if (isWord("spills")) {
                if (!readNumber(0, MOST_SPILLS)) {
                    return false;
                }
                road.spills = number;
            } else if (isWord("water")) {
                if (!readNumber(0, road.room)) {
                    return false;
                }
                road.water = number;
            } else if (isWord("drought")) {
                if (!readNumber(0, MOST_DROUGHT)) {
                    return false;
                }
                road.drought = number;
            } else {
                return false;
            }
            next();
            return true;
        }

        private boolean readPump(Road road, int kind) {
            next();
            if (!isWord("at") || !readNumber(0, MOST_MILE)) {
                return false;
            }
            int mile = number;
            int gives = 9;
            int fails = 0;
            next();
            if (isWord("gives")) {
                if (!readNumber(1, MOST_GIVES)) {
                    return false;
                }
                gives = number;
                next();
            }
            if (isWord("fails")) {
                if (!readNumber(0, MOST_FAILS)) {
                    return false;
                }
                fails = number;
                next();
            }
            road.add(kind, mile, gives, fails);
            return true;
        }

        private boolean readNumber(int least, int most) {
            next();
            return token == NUMBER && number >= least && number <= most;
        }

        private int kindTold() {
            for (int kind = 0; kind <= MOST_KIND; kind++) {
                if (isWord(wordOf(kind))) {
                    return kind;
                }
            }
            return NOTHING;
        }

        private static String wordOf(int kind) {
            switch (kind) {
                case DEEP: return "deep";
                case SPRING: return "spring";
                case TIRED: return "tired";
                case SHARED: return "shared";
                case MORNING: return "morning";
                case FAINT: return "faint";
                default: return "pump";
            }
        }

        private boolean isWord(String word) {
            if (token != WORD || behind - begin != word.length()) {
                return false;
            }
            for (int i = 0; i < word.length(); i++) {
                if (bytes[begin + i] != word.charAt(i)) {
                    return false;
                }
            }
            return true;
        }

        private void next() {
            begin = behind;
            while (begin < length && bytes[begin] == ' ') {
                begin++;
            }
            behind = begin;
            if (begin >= length) {
                token = END;
            } else if (isLetter(begin)) {
                token = WORD;
                while (behind < length && isLetter(behind)) {
                    behind++;
                }
            } else if (isDigit(begin)) {
                token = NUMBER;
                nextNumber();
            } else {
                token = bytes[begin] == ';' ? SIGN : FALSE_BYTE;
                behind++;
            }
        }

        private void nextNumber() {
            number = 0;
            while (behind < length && isDigit(behind)) {
                // Held just above what may stand, however many digits come.
                number = Math.min(MOST_NUMBER + 1, number * 10 + bytes[behind] - '0');
                behind++;
            }
        }

        /** The caller has asked whether the place is on the tape. */
        private boolean isLetter(int place) {
            return bytes[place] >= 'a' && bytes[place] <= 'z';
        }

        private boolean isDigit(int place) {
            return bytes[place] >= '0' && bytes[place] <= '9';
        }
    }

    /**
     * Plans over a road as it is laid out now. More water at a place never brings less and never hinders
     * a run, so of all orders of one set with one last pump only the most water has to be known.
     */
    private static final class Planner {
        private static final int ANY = -1;
        private static final int START = MOST_PUMPS;
        private static final int HOME = MOST_PUMPS + 1;
        private static final int PLACES = MOST_PUMPS + 2;
        private static final int CANNOT = -1;
        private static final int TOO_MUCH = 1000000;
        private static final int SETS = 1 << MOST_PUMPS;

        final int[] plan = new int[MOST_PUMPS];
        int planned = 0;
        private int pumps = 0;
        private int able = 0;
        private int room = 1;
        private int spills = 0;
        private final int[] mile = new int[PLACES];
        private final int[] lost = new int[PLACES * PLACES];
        private final int[] need = new int[MOST_PUMPS];
        private final int[] yields = new int[MOST_PUMPS];
        private final int[] fails = new int[MOST_PUMPS];
        /** By set and last pump: the most water behind running that last, all of the set having run.
         *  Where the last isn't of the set it stays CANNOT for good, so that no reader has to ask. */
        private final int[] most = new int[SETS * MOST_PUMPS];
        /** By set and last pump: the least water there with which the rest of a plan can be had. */
        private final int[] wanted = new int[SETS * MOST_PUMPS];

        Planner() {
            for (int i = 0; i < SETS * MOST_PUMPS; i++) {
                most[i] = CANNOT;
            }
        }

        void lay(Road road, int drought) {
            pumps = road.size;
            room = road.room;
            able = 0;
            for (int p = 0; p < pumps; p++) {
                Pump pump = road.pumps[p];
                mile[p] = pump.mile;
                yields[p] = pump.yieldsAt(drought, road.hour);
                need[p] = pump.needsFor(yields[p]);
                fails[p] = pump.fails;
                if (!pump.today && yields[p] > 0) {
                    able |= 1 << p;
                }
            }
            mile[START] = road.at;
            mile[HOME] = 0;
            spills = road.spills;
            measure();
        }

        private void measure() {
            for (int a = 0; a < PLACES; a++) {
                for (int b = 0; b < PLACES; b++) {
                    lost[a * PLACES + b] = spiltBetween(mile[a], mile[b], spills);
                }
            }
        }

        private static boolean isIn(int p, int set) {
            return (set >> p & 1) == 1;
        }

        private int carried(int water, int a, int b) {
            return Math.max(0, water - lost[a * PLACES + b]);
        }

        /** Water behind running a pump with so much there, or that it can't be. */
        private int ran(int p, int water) {
            if (!isIn(p, able) || water < need[p]) {
                return CANNOT;
            }
            return Math.min(room, water - need[p] + yields[p]);
        }

        // ---- a plan as it is told

        void planAll() {
            for (int p = 0; p < pumps; p++) {
                plan[p] = p;
            }
            planned = pumps;
        }

        /** Whether the numbers of a sheet are unlike pumps; then they are the plan. */
        boolean planFrom(Sheet sheet) {
            int came = 0;
            planned = 0;
            for (int i = 0; i < sheet.length; i++) {
                int p = sheet.numbers[i];
                if (p < 0 || p >= pumps || isIn(p, came)) {
                    return false;
                }
                came |= 1 << p;
                plan[planned] = p;
                planned++;
            }
            return true;
        }

        int planBrings(int w, int leftOut) {
            int place = START;
            int water = w;
            for (int i = 0; i < planned; i++) {
                if (i != leftOut) {
                    int p = plan[i];
                    water = carried(water, place, p);
                    int behind = ran(p, water);
                    water = behind == CANNOT ? water : behind;
                    place = p;
                }
            }
            return carried(water, place, HOME);
        }

        /** How many numbers of a sheet, from its begin on, are unlike pumps that can be run in that order. */
        int runsInARow(Sheet sheet, int w) {
            int came = 0;
            int place = START;
            int water = w;
            for (int i = 0; i < sheet.length; i++) {
                int p = sheet.numbers[i];
                if (p < 0 || p >= pumps || isIn(p, came)) {
                    return i;
                }
                water = ran(p, carried(water, place, p));
                if (water == CANNOT) {
                    return i;
                }
                came |= 1 << p;
                place = p;
            }
            return sheet.length;
        }

        // ---- the best plan

        int mostWith(int w) {
            return mostFrom(1, w, carried(w, START, HOME));
        }

        /** As good as a best so far, or better by a set from one on; those below it stand in the table. */
        private int mostFrom(int leastSet, int w, int bestSoFar) {
            spread(leastSet, START, w, able);
            int best = bestSoFar;
            for (int set = leastSet; set < 1 << pumps; set++) {
                best = Math.max(best, mostHome(set));
            }
            return best;
        }

        /** Fills the table of most water, for plans that begin with one of the firsts. */
        private void spread(int leastSet, int from, int w, int firsts) {
            for (int set = leastSet; set < 1 << pumps; set++) {
                if ((set & ~able) == 0) {
                    for (int last = 0; last < pumps; last++) {
                        if (isIn(last, set)) {
                            int rest = set & ~(1 << last);
                            int comes = rest != 0 ? mostComing(rest, last)
                                    : isIn(last, firsts) ? carried(w, from, last) : CANNOT;
                            most[set * MOST_PUMPS + last] = ran(last, comes);
                        }
                    }
                }
            }
        }

        /** The most water with which he comes to a place, all of a set having run. */
        private int mostComing(int set, int place) {
            int best = CANNOT;
            for (int last = 0; last < pumps; last++) {
                int had = most[set * MOST_PUMPS + last];
                if (had > best) {
                    best = Math.max(best, carried(had, last, place));
                }
            }
            return best;
        }

        private int mostHome(int set) {
            return (set & ~able) == 0 ? mostComing(set, HOME) : CANNOT;
        }

        /** The plan that brings most: of several that of fewest pumps, then that of the least numbers. */
        void planBest(int w) {
            int best = mostWith(w);
            planned = fewestBringing(best, w);
            leastStart(best, planned);
            int set = 0;
            int place = START;
            int water = w;
            for (int i = 0; i < planned; i++) {
                int p = leastNext(set, place, water);
                if (p == NOTHING) {
                    planned = i;
                    return;
                }
                plan[i] = p;
                water = ran(p, carried(water, place, p));
                set |= 1 << p;
                place = p;
            }
        }

        private int fewestBringing(int best, int w) {
            if (carried(w, START, HOME) == best) {
                return 0;
            }
            int fewest = pumps;
            for (int set = 1; set < 1 << pumps; set++) {
                if (mostHome(set) == best) {
                    fewest = Math.min(fewest, Integer.bitCount(set));
                }
            }
            return fewest;
        }

        private int leastNext(int set, int place, int water) {
            for (int p = 0; p < pumps; p++) {
                if (isIn(p, able & ~set)) {
                    int behind = ran(p, carried(water, place, p));
                    if (behind != CANNOT && behind >= wanted[(set | 1 << p) * MOST_PUMPS + p]) {
                        return p;
                    }
                }
            }
            return NOTHING;
        }

        // ---- worked back from the end

        /** The least water with which a plan of so many pumps (or ANY) brings v or more; above ROOM: none. */
        int leastStart(int v, int size) {
            for (int set = (1 << pumps) - 1; set > 0; set--) {
                if ((set & ~able) == 0) {
                    for (int last = 0; last < pumps; last++) {
                        if (isIn(last, set)) {
                            wanted[set * MOST_PUMPS + last] = wantedAt(last, set, v, size);
                        }
                    }
                }
            }
            return wantedAt(START, 0, v, size);
        }

        private int wantedAt(int place, int set, int v, int size) {
            int more = size - Integer.bitCount(set);
            int least = TOO_MUCH;
            if (size == ANY || more == 0) {
                least = wantedBefore(v, place, HOME);
            }
            if (size == ANY || more > 0) {
                for (int p = 0; p < pumps; p++) {
                    if (isIn(p, able & ~set)) {
                        int behind = wanted[(set | 1 << p) * MOST_PUMPS + p];
                        least = Math.min(least, wantedBefore(wantedToRun(p, behind), place, p));
                    }
                }
            }
            return least;
        }

        private int wantedToRun(int p, int behind) {
            return behind > room ? TOO_MUCH : Math.max(need[p], behind + need[p] - yields[p]);
        }

        private int wantedBefore(int water, int a, int b) {
            return water == 0 ? 0 : water + lost[a * PLACES + b];
        }

        /** The least water that some plan makes more; above ROOM: none. */
        int leastGaining() {
            int bound = Math.min(room, enoughForAll());
            int w = 0;
            for (int tries = 0; tries <= MOST_ROOM && w <= bound; tries++) {
                // Below what brings w + 1 nothing brings more than w: all that lies between is passed over.
                int start = leastStart(w + 1, ANY);
                if (start <= w) {
                    return w;
                }
                w = start;
            }
            return TOO_MUCH;
        }

        /**
         * With so much water each plan runs through that ROOM lets run at all. A plan that runs through
         * gains no more by more water, so none begins to gain above this.
         */
        private int enoughForAll() {
            int dearestWay = 0;
            int dearestNeed = 0;
            int losses = 0;
            for (int p = 0; p < pumps; p++) {
                for (int from = 0; from <= START; from++) {
                    if (from < pumps || from == START) {
                        dearestWay = Math.max(dearestWay, lost[from * PLACES + p]);
                    }
                }
                dearestNeed = Math.max(dearestNeed, need[p]);
                losses += Math.max(0, need[p] - yields[p]);
            }
            return pumps * dearestWay + dearestNeed + losses;
        }

        // ---- questions about plans

        int firsts(int w) {
            int set = 0;
            for (int p = 0; p < pumps; p++) {
                if (ran(p, carried(w, START, p)) != CANNOT) {
                    set |= 1 << p;
                }
            }
            return set;
        }

        /** The ring of fewest pumps, of several the least; no set: there is none. */
        int smallestRing() {
            int smallest = 0;
            for (int first = 0; first < pumps; first++) {
                if (isIn(first, able)) {
                    spread(1, first, need[first], 1 << first);
                    for (int set = 1; set < 1 << pumps; set++) {
                        if (isRing(set, first) && comesBefore(set, smallest)) {
                            smallest = set;
                        }
                    }
                }
            }
            return smallest;
        }

        private boolean isRing(int set, int first) {
            return (set & ~able) == 0 && isIn(first, set) && Integer.bitCount(set) >= 2
                    && mostComing(set, first) >= need[first];
        }

        private static boolean comesBefore(int set, int other) {
            int fewer = Integer.bitCount(set) - Integer.bitCount(other);
            return other == 0 || fewer < 0 || (fewer == 0 && set < other);
        }

        int dearest(int w) {
            int all = able;
            int dearest = 0;
            int least = TOO_MUCH;
            for (int p = 0; p < pumps; p++) {
                able = all & ~(1 << p);
                int without = mostWith(w);
                if (without < least) {
                    least = without;
                    dearest = p;
                }
            }
            able = all;
            return dearest;
        }

        /** The caller has asked whether there is place for one more pump. */
        int bestSpring(int w) {
            int without = mostWith(w);
            int fresh = pumps;
            pumps++;
            able |= 1 << fresh;
            need[fresh] = 0;
            yields[fresh] = 1;
            int bestMile = 0;
            int best = CANNOT;
            for (int m = 0; m <= MOST_MILE; m++) {
                mile[fresh] = m;
                measure();
                int brought = mostFrom(1 << fresh, w, without);
                if (brought > best) {
                    best = brought;
                    bestMile = m;
                }
            }
            return bestMile;
        }

        int leastRoomForMost(int w) {
            room = MOST_ROOM;
            int top = mostWith(w);
            // More room never brings less: the greatest room that is too little is built up by halves.
            int little = Math.max(w, 1) - 1;
            for (int step = 512; step > 0; step /= 2) {
                if (little + step < MOST_ROOM) {
                    room = little + step;
                    if (mostWith(w) < top) {
                        little = room;
                    }
                }
            }
            return little + 1;
        }

        /** The greatest SPILLS with which he brings less than without any; 0: there is none. */
        int greatestSpillsThatCost(int w) {
            spills = 0;
            measure();
            int top = mostWith(w);
            // Spilling more seldom never brings less: the greatest that costs is built up by halves.
            int costs = 0;
            for (int step = 64; step > 0; step /= 2) {
                if (costs + step <= MOST_SPILLS) {
                    spills = costs + step;
                    measure();
                    if (mostWith(w) < top) {
                        costs = spills;
                    }
                }
            }
            return costs;
        }

        // ---- odds of the plan

        /** In how many parts of 12 to the number of pumps the plan brings v or more. */
        long partsBringing(int w, int v) {
            long sum = 0;
            for (int failing = 0; failing < 1 << planned; failing++) {
                sum += weighed(failing, w, v);
            }
            return sum;
        }

        /** What the plan brings times its parts, over all. */
        long sumBrought(int w) {
            return partsBringing(w, NOTHING);
        }

        /** The parts of one set of failing pumps if v or more comes home; v NOTHING: times what comes. */
        private long weighed(int failing, int w, int v) {
            long parts = 1;
            int place = START;
            int water = w;
            for (int i = 0; i < planned; i++) {
                int p = plan[i];
                water = carried(water, place, p);
                place = p;
                int behind = ran(p, water);
                // A pump that can't be run has nothing to fail at: all its parts are with not failing.
                int failsThere = behind == CANNOT ? 0 : fails[p];
                parts *= isIn(i, failing) ? failsThere : TWELFTHS - failsThere;
                if (behind != CANNOT) {
                    water = isIn(i, failing) ? water - need[p] : behind;
                }
            }
            int brought = carried(water, place, HOME);
            if (v == NOTHING) {
                return parts * brought;
            }
            return brought >= v ? parts : 0;
        }
    }
}
