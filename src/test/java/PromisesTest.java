/** Each promise by itself: ordinary calls, the edges that the document names, and each finding in its order. */
public final class PromisesTest {
    private static final int BEYOND = -1000001;
    private static final int FULL = -1000002;
    private static final int KIND = -1000003;
    private static final int NONE = -1000004;
    private static final int STATE = -1000005;
    private static final int MISSING = -1000006;
    private static final int SIZE = -1000007;
    private static final int MIN = Integer.MIN_VALUE;
    private static final int MAX = Integer.MAX_VALUE;

    private static int promise = 0;
    private static int row = 0;
    private static int wrong = 0;
    private static int asked = 0;

    private static void promise(int number) {
        promise = number;
        row = 0;
    }

    /** What the last call answered, and what is due; told by its place among the rows of its promise. */
    private static void due(long got, long want) {
        row++;
        asked++;
        if (got != want) {
            wrong++;
            System.out.println("promise " + promise + ", row " + row + ": answered " + got + ", due is " + want);
        }
    }

    private static void feedAll(PrimedPumps x, String text) {
        for (int i = 0; i < text.length(); i++) {
            x.feed(text.charAt(i), 1);
        }
    }

    private static int told(PrimedPumps x, String text) {
        x.wipe();
        feedAll(x, text);
        return x.text();
    }

    private static PrimedPumps road(String text) {
        PrimedPumps x = new PrimedPumps();
        if (told(x, text) < 0) {
            throw new IllegalStateException(text);
        }
        return x;
    }

    public static void main(String[] args) {
        newObject();
        pump();
        ofPumps();
        yields();
        change();
        rule();
        water();
        go();
        days();
        run();
        failing();
        seed();
        can();
        village();
        night();
        row();
        most();
        order();
        leasts();
        starts();
        ring();
        mistake();
        dear();
        spring();
        matters();
        room();
        bears();
        odds();
        rust();
        barrel();
        judge();
        feed();
        texts();
        textFaults();
        textSemantics();
        spots();
        sheet();
        write();
        copy();
        load();
        images();
        count();
        status();
        System.out.println(asked + " answers asked, " + wrong + " wrong");
        if (wrong != 0) {
            System.exit(1);
        }
    }

    private static void newObject() {
        promise(1);
        PrimedPumps x = new PrimedPumps();
        for (int what = 0; what < 7; what++) {
            due(x.now(what), 0);
        }
        int[] counts = {0, 0, 0, 0, 0, 0, 1, 0};
        for (int what = 0; what < 8; what++) {
            due(x.count(what), counts[what]);
        }
        for (int which = -1; which < 7; which++) {
            due(x.status(which), 0);
        }
        due(x.rule(0, 40), 40);
        due(x.rule(1, 5), 5);
        due(x.rule(2, 0), 0);
        due(x.rule(3, 0), 0);
        due(x.undo(), NONE);
        due(x.tear(), 0);
        due(x.as(0, 0), MISSING);
        due(x.load(0), MISSING);
    }

    private static void pump() {
        promise(2);
        PrimedPumps x = new PrimedPumps();
        due(x.pump(-1, 0, 1), BEYOND);
        due(x.pump(7, 0, 1), BEYOND);
        due(x.pump(0, -1, 1), BEYOND);
        due(x.pump(0, 100, 1), BEYOND);
        due(x.pump(0, 0, 0), BEYOND);
        due(x.pump(0, 0, 61), BEYOND);
        due(x.pump(MIN, MAX, MIN), BEYOND);
        due(x.count(0), 0);
        for (int i = 0; i < 8; i++) {
            due(x.pump(i % 7, i == 0 ? 99 : i, i == 0 ? 60 : 1), i);
        }
        due(x.pump(0, 0, 1), FULL);
        due(x.pump(0, 0, 61), BEYOND);
        due(x.count(0), 8);
        due(x.of(0, 1), 99);
        due(x.of(0, 2), 60);
        due(x.of(7, 0), 0);
    }

    private static void ofPumps() {
        promise(3);
        PrimedPumps x = new PrimedPumps();
        due(x.of(0, 0), BEYOND);
        x.pump(3, 7, 20);
        int[] first = {3, 7, 20, 0, 0, 0, 20, 7};
        for (int what = 0; what < 8; what++) {
            due(x.of(0, what), first[what]);
        }
        due(x.of(0, -1), BEYOND);
        due(x.of(0, 8), BEYOND);
        due(x.of(1, 0), BEYOND);
        due(x.of(-1, 0), BEYOND);
        due(x.of(MIN, MAX), BEYOND);
        x.go(7);
        x.water(10);
        due(x.run(0), 23);
        int[] then = {3, 7, 20, 0, 1, 1, 19, 7};
        for (int what = 0; what < 8; what++) {
            due(x.of(0, what), then[what]);
        }
    }

    private static void yieldAndNeed(PrimedPumps x, int kind, int yield, int need) {
        x.change(0, 0, kind);
        due(x.of(0, 6), yield);
        due(x.of(0, 7), need);
    }

    private static void yields() {
        promise(3);
        row = 100;
        PrimedPumps x = new PrimedPumps();
        x.pump(0, 0, 19);
        yieldAndNeed(x, 0, 19, 7);
        yieldAndNeed(x, 1, 19, 10);
        yieldAndNeed(x, 2, 1, 0);
        yieldAndNeed(x, 3, 19, 7);
        yieldAndNeed(x, 4, 9, 5);
        yieldAndNeed(x, 5, 22, 8);
        yieldAndNeed(x, 6, 19, 8);
        x.rule(3, 8);
        yieldAndNeed(x, 5, 22, 8);
        x.rule(3, 9);
        yieldAndNeed(x, 5, 19, 7);
        x.rule(3, 11);
        yieldAndNeed(x, 6, 19, 8);
        x.rule(3, 12);
        yieldAndNeed(x, 6, 0, 1);
        yieldAndNeed(x, 3, 19, 7);
        x.rule(3, 23);
        yieldAndNeed(x, 6, 0, 1);
        yieldAndNeed(x, 2, 1, 0);
        x.rule(3, 0);
        x.rule(2, 9);
        x.change(0, 2, 18);
        yieldAndNeed(x, 0, 9, 3);
        yieldAndNeed(x, 1, 9, 5);
        yieldAndNeed(x, 2, 1, 0);
        yieldAndNeed(x, 4, 4, 2);
        yieldAndNeed(x, 5, 12, 4);
        yieldAndNeed(x, 6, 9, 4);
        x.change(0, 2, 5);
        yieldAndNeed(x, 0, 0, 0);
        yieldAndNeed(x, 1, 0, 0);
        yieldAndNeed(x, 2, 1, 0);
        yieldAndNeed(x, 3, 0, 0);
        yieldAndNeed(x, 4, 0, 0);
        yieldAndNeed(x, 5, 3, 1);
        yieldAndNeed(x, 6, 0, 1);
        wornYields();
    }

    private static void wornYields() {
        PrimedPumps x = new PrimedPumps();
        x.pump(3, 0, 3);
        for (int used = 0; used < 3; used++) {
            due(x.of(0, 4), used);
            due(x.of(0, 6), 3 - used);
            x.water(5);
            x.run(0);
            x.night();
        }
        yieldAndNeed(x, 3, 0, 0);
        due(x.run(0), STATE);
        yieldAndNeed(x, 6, 0, 1);
        yieldAndNeed(x, 0, 3, 1);
        yieldAndNeed(x, 5, 6, 2);
        due(x.run(0), 5 - 2 + 6);
        x.night();
        x.change(0, 2, 10);
        yieldAndNeed(x, 3, 6, 2);
        yieldAndNeed(x, 6, 6, 3);
        x.rule(2, 9);
        yieldAndNeed(x, 3, 0, 0);
    }

    private static void change() {
        promise(4);
        PrimedPumps x = new PrimedPumps();
        due(x.change(0, 0, 0), BEYOND);
        x.pump(1, 2, 3);
        due(x.change(0, 0, 6), 1);
        due(x.change(0, 1, 99), 2);
        due(x.change(0, 2, 60), 3);
        due(x.change(0, 3, 11), 0);
        due(x.change(0, 0, 0), 6);
        due(x.change(0, 1, 0), 99);
        due(x.change(0, 2, 1), 60);
        due(x.change(0, 3, 0), 11);
        int[][] bad = {{0, 0, -1}, {0, 0, 7}, {0, 1, -1}, {0, 1, 100}, {0, 2, 0}, {0, 2, 61}, {0, 3, -1}, {0, 3, 12},
            {0, 4, 0}, {0, -1, 0}, {1, 0, 0}, {-1, 0, 0}, {MAX, MIN, MAX}};
        for (int[] b : bad) {
            due(x.change(b[0], b[1], b[2]), BEYOND);
        }
        int[] stays = {0, 0, 1, 0};
        for (int what = 0; what < 4; what++) {
            due(x.of(0, what), stays[what]);
        }
    }

    private static void rule() {
        promise(5);
        PrimedPumps x = new PrimedPumps();
        int[][] bad = {{0, 0}, {0, 1000}, {0, -1}, {1, -1}, {1, 100}, {2, -1}, {2, 10}, {3, -1}, {3, 24}, {4, 0}, {-1, 0}};
        for (int[] b : bad) {
            due(x.rule(b[0], b[1]), BEYOND);
        }
        due(x.rule(0, 999), 40);
        due(x.rule(0, 1), 999);
        due(x.rule(1, 99), 5);
        due(x.rule(1, 0), 99);
        due(x.rule(2, 9), 0);
        due(x.rule(2, 0), 9);
        due(x.rule(3, 23), 0);
        due(x.now(3), 23);
        due(x.rule(3, 0), 23);
        x.rule(0, 50);
        x.water(20);
        due(x.rule(0, 19), BEYOND);
        due(x.rule(0, 20), 50);
        due(x.water(21), BEYOND);
        // HOUR set by hand is no new day.
        x.pump(2, 0, 1);
        x.water(0);
        x.run(0);
        x.rule(3, 5);
        x.rule(3, 0);
        due(x.of(0, 5), 1);
        due(x.now(4), 0);
    }

    private static void water() {
        promise(6);
        PrimedPumps x = new PrimedPumps();
        due(x.water(40), 0);
        due(x.water(41), BEYOND);
        due(x.water(-1), BEYOND);
        due(x.now(1), 40);
        due(x.water(0), 40);
        due(x.water(7), 0);
        promise(7);
        due(x.now(-1), BEYOND);
        due(x.now(7), BEYOND);
        due(x.now(1), 7);
    }

    private static void go() {
        promise(8);
        PrimedPumps x = new PrimedPumps();
        x.water(10);
        due(x.go(-1), BEYOND);
        due(x.go(100), BEYOND);
        due(x.go(4), 10);
        due(x.go(8), 10);
        due(x.go(13), 9);
        due(x.now(0), 13);
        due(x.now(3), 0);
        due(x.go(23), 7);
        due(x.now(3), 1);
        due(x.go(99), 0);
        due(x.now(5), 10);
        due(x.now(3), 8);
        due(x.go(99), 0);
        due(x.go(0), 0);
        due(x.now(5), 10);
        due(x.now(3), 17);
        x.rule(1, 0);
        x.water(9);
        due(x.go(99), 9);
        due(x.now(5), 10);
        due(x.now(3), 2);
        due(x.now(4), 1);
        x.rule(1, 1);
        due(x.go(96), 6);
        due(x.now(5), 13);
    }

    private static void days() {
        promise(8);
        row = 100;
        PrimedPumps x = new PrimedPumps();
        x.pump(2, 0, 1);
        x.run(0);
        x.rule(3, 22);
        x.go(19);
        due(x.now(3), 23);
        due(x.of(0, 5), 1);
        x.go(29);
        due(x.now(3), 0);
        due(x.now(4), 1);
        due(x.of(0, 5), 0);
        due(x.of(0, 4), 1);
        // What later than the 512th call is asked is free, but the bound of DAY is cheap to see.
        for (int day = 1; day < 999; day++) {
            x.night();
        }
        due(x.now(4), 999);
        x.rule(3, 23);
        x.rule(1, 5);
        x.water(8);
        due(x.go(0), STATE);
        due(x.now(0), 29);
        due(x.now(1), 8);
        due(x.go(38), 7);
        due(x.go(48), STATE);
        due(x.now(0), 38);
        due(x.night(), STATE);
        due(x.now(3), 23);
    }

    private static void run() {
        promise(9);
        PrimedPumps x = road("pump at 5 gives 20;spring at 5;faint at 5 gives 1;deep at 0 gives 60");
        due(x.run(4), BEYOND);
        due(x.run(-1), BEYOND);
        x.water(40);
        due(x.run(0), STATE);
        x.go(5);
        x.water(6);
        due(x.run(0), STATE);
        due(x.run(3), STATE);
        x.water(7);
        due(x.run(0), 20);
        due(x.of(0, 5), 1);
        due(x.of(0, 4), 1);
        due(x.run(0), STATE);
        due(x.now(1), 20);
        x.water(40);
        due(x.run(1), 40);
        due(x.now(6), 1);
        due(x.run(2), 39);
        due(x.now(6), 1);
        due(x.now(3), 0);
        x.go(0);
        x.water(40);
        due(x.run(3), 40);
        due(x.now(6), 31);
        due(x.count(6), 1);
        // A run is judged by what it is now: YIELD 0 can't be run.
        x.night();
        x.rule(3, 12);
        x.go(5);
        due(x.run(2), STATE);
        x.change(0, 1, 6);
        due(x.run(0), STATE);
    }

    private static int drawn(int z) {
        return z * 1103515245 + 12345;
    }

    private static void failing() {
        promise(9);
        row = 100;
        failing(1);
        failing(5);
        failing(11);
    }

    private static void failing(int twelfths) {
        int z = 1;
        int used = 0;
        PrimedPumps x = road("pump at 0 gives 9");
        x.change(0, 3, twelfths);
        for (int i = 0; i < 60; i++) {
            z = drawn(z);
            boolean fails = (z >>> 8) % 12 < twelfths;
            used += fails ? 0 : 1;
            x.water(10);
            due(x.run(0), fails ? 7 : 16);
            due(x.of(0, 5), fails ? 0 : 1);
            due(x.of(0, 4), used);
            due(x.count(6), z);
            if (!fails) {
                due(x.run(0), STATE);
                due(x.count(6), z);
                x.night();
            }
        }
        due(x.now(5), 0);
        due(x.now(6), 0);
    }

    private static void seed() {
        promise(31);
        PrimedPumps x = new PrimedPumps();
        due(x.seed(-7), 1);
        due(x.count(6), -7);
        due(x.seed(MIN), -7);
        due(x.seed(BEYOND), MIN);
        // An answer that looks like a finding, and is none.
        due(x.count(6), BEYOND);
        due(x.seed(0), BEYOND);
        due(x.status(-1), 0);
    }

    private static void can() {
        promise(10);
        PrimedPumps x = road("pump at 50 gives 20;spring at 0;faint at 9 gives 3");
        due(x.can(3), BEYOND);
        due(x.can(-1), BEYOND);
        due(x.can(0), 0);
        due(x.can(1), 1);
        x.water(6);
        due(x.can(0), 0);
        x.water(7);
        due(x.can(0), 1);
        due(x.can(2), 1);
        x.rule(3, 12);
        due(x.can(2), 0);
        x.run(1);
        due(x.can(1), 0);
        x.night();
        due(x.can(1), 1);
        due(x.now(1), 8);
    }

    private static void village() {
        promise(11);
        PrimedPumps x = new PrimedPumps();
        x.water(30);
        due(x.pour(), 30);
        due(x.now(1), 0);
        due(x.now(2), 30);
        due(x.pour(), 0);
        x.water(5);
        x.go(1);
        due(x.pour(), STATE);
        due(x.now(1), 5);
        promise(12);
        due(x.fill(1), STATE);
        due(x.fill(0), BEYOND);
        due(x.fill(1000), BEYOND);
        x.go(0);
        due(x.pour(), 5);
        due(x.fill(0), BEYOND);
        due(x.fill(-1), BEYOND);
        due(x.fill(36), STATE);
        due(x.fill(20), 20);
        due(x.fill(16), STATE);
        due(x.fill(15), 35);
        due(x.now(2), 0);
        due(x.fill(1), STATE);
        x.pour();
        x.water(10);
        due(x.fill(31), STATE);
        due(x.fill(30), 40);
        due(x.now(2), 5);
        due(x.fill(999), STATE);
    }

    private static void night() {
        promise(13);
        PrimedPumps x = road("spring at 7;tired at 7");
        x.go(7);
        x.run(0);
        x.water(9);
        x.run(1);
        x.rule(3, 13);
        due(x.count(1), 2);
        due(x.night(), 1);
        due(x.now(3), 0);
        due(x.now(4), 1);
        due(x.now(0), 7);
        due(x.now(1), 15);
        due(x.count(1), 0);
        due(x.count(2), 2);
        due(x.night(), 2);
    }

    private static void row() {
        promise(14);
        PrimedPumps x = road("pump at 5 gives 9;pump at 10 gives 30;spring at 0");
        due(x.row(-1), BEYOND);
        due(x.row(41), BEYOND);
        due(x.row(0), 1);
        // 4 home, 3 there: 9; 8 there can't; home 6; the spring 7.
        due(x.row(4), 7);
        // 10: 9 there, 15; 14 there, 34; home 32; 33.
        due(x.row(10), 33);
        due(x.row(40), 39 - 1 + 1);
        due(x.count(1), 0);
        due(x.now(1), 0);
        due(new PrimedPumps().row(40), 40);
    }

    private static void most() {
        promise(15);
        PrimedPumps x = road("pump at 5 gives 9;pump at 10 gives 30;spring at 0");
        due(x.most(-1), BEYOND);
        due(x.most(41), BEYOND);
        due(x.most(0), 1);
        due(x.most(3), 8);
        due(x.most(40), 40);
        due(x.most(9), 9 + 1 - 1 + 6 - 1 + 20 - 2);
        x.go(20);
        // From where he is: 20 miles home.
        due(x.most(3), 1);
        x.rule(1, 0);
        due(x.most(0), 1);
        due(x.most(1), 2);
        // The spring first makes 3, the pump 9: one short of the other's 10.
        due(x.most(2), 9);
        due(x.most(3), 30);
        x.go(0);
        x.water(40);
        x.run(2);
        due(x.most(0), 0);
    }

    private static void order() {
        promise(16);
        PrimedPumps x = road("pump at 0 gives 9;pump at 0 gives 9;spring at 0");
        due(x.order(-1, 0), BEYOND);
        due(x.order(41, 0), BEYOND);
        due(x.order(0, -1), BEYOND);
        due(x.order(0, 8), BEYOND);
        // All three run, the least number first.
        due(x.order(3, 0), 0);
        due(x.order(3, 1), 1);
        due(x.order(3, 2), 2);
        due(x.order(3, 3), NONE);
        due(x.order(2, 0), 2);
        due(x.order(2, 1), 0);
        due(x.order(2, 2), 1);
        due(x.order(0, 0), 2);
        due(x.order(0, 1), NONE);
        // Full already: none has to run.
        due(x.order(40, 0), NONE);
        due(x.order(39, 0), 0);
        due(x.order(39, 1), NONE);
        due(x.order(30, 0), 0);
        due(x.order(30, 1), 1);
        due(x.order(30, 2), NONE);
        due(new PrimedPumps().order(40, 7), NONE);
    }

    private static void leasts() {
        promise(17);
        PrimedPumps x = road("pump at 10 gives 9;deep at 20 gives 20");
        // 2 lost and 3: 9 less 2 are 7, below 10. So 10 there: 2 + 6 - 2 = 12 wanted with 2 lost.
        due(x.least(), 8);
        promise(18);
        due(x.leastFor(-1), BEYOND);
        due(x.leastFor(1000), BEYOND);
        due(x.leastFor(0), 0);
        due(x.leastFor(3), 3);
        due(x.leastFor(7), 5);
        // Both bring 8 more: 4 lost on the way out, 4 home.
        due(x.leastFor(12), 8);
        due(x.leastFor(36), 28);
        // ROOM holds, and from the pumps he loses 2 at least: the most comes without any.
        due(x.leastFor(38), 30);
        due(x.leastFor(40), 40);
        due(x.leastFor(41), NONE);
        due(x.leastFor(999), NONE);
        promise(19);
        due(x.keep(), 5);
        x.rule(0, 4);
        due(x.keep(), NONE);
        promise(17);
        row = 10;
        due(x.least(), NONE);
        x.rule(0, 7);
        due(x.least(), NONE);
        x.rule(0, 10);
        due(x.least(), NONE);
        x.rule(0, 12);
        due(x.least(), 8);
        due(new PrimedPumps().least(), 0);
        x.rule(0, 40);
        x.go(10);
        x.water(9);
        x.run(0);
        due(x.least(), NONE);
        x.night();
        due(x.least(), 6);
    }

    private static void starts() {
        promise(20);
        PrimedPumps x = road("pump at 5 gives 9;spring at 99;deep at 0 gives 8;faint at 0 gives 1");
        due(x.starts(-1), BEYOND);
        due(x.starts(41), BEYOND);
        due(x.starts(0), 2);
        due(x.starts(2), 2 + 8);
        due(x.starts(3), 2 + 8);
        due(x.starts(4), 1 + 2 + 4 + 8);
        x.go(5);
        due(x.starts(3), 1 + 2 + 8);
        x.rule(3, 12);
        due(x.starts(40), 7);
        x.water(40);
        x.run(0);
        due(x.starts(40), 6);
    }

    private static void ring() {
        promise(21);
        due(new PrimedPumps().ring(), NONE);
        due(road("pump at 5").ring(), NONE);
        due(road("pump at 5;pump at 5").ring(), 3);
        // Too far from one another: 9 less 9 on the way.
        due(road("pump at 0;pump at 45").ring(), NONE);
        due(road("pump at 0;pump at 45;pump at 90;pump at 0").ring(), 9);
        due(road("pump at 0;pump at 45;pump at 45;pump at 90").ring(), 6);
        // From the spring on it needs nothing to come back with, but the pump must be primed.
        due(road("spring at 0;pump at 0 gives 3").ring(), 3);
        due(road("spring at 0;pump at 5 gives 3").ring(), 3);
        due(road("spring at 0;pump at 50 gives 6").ring(), NONE);
        // Springs are a ring however far; of several rings of two the least.
        due(road("pump at 0;spring at 30;spring at 90").ring(), 6);
        due(road("spring at 9;pump at 60;spring at 30;spring at 90").ring(), 5);
        due(road("room 3;pump at 0;pump at 0;pump at 0").ring(), 3);
        due(road("room 2;pump at 0;pump at 0").ring(), NONE);
        PrimedPumps x = road("pump at 5;pump at 5;pump at 5");
        x.go(5);
        x.water(40);
        x.run(0);
        due(x.ring(), 6);
    }

    private static void mistake() {
        promise(22);
        PrimedPumps x = road("pump at 0 gives 9;pump at 0 gives 30;spring at 0");
        due(x.mistake(-1, 0), BEYOND);
        due(x.mistake(41, 0), BEYOND);
        due(x.mistake(0, -1), BEYOND);
        due(x.mistake(0, 8), BEYOND);
        // Order 2, 0, 1 with 3: 4, 10, 30.
        due(x.most(3), 30);
        due(x.order(3, 0), 0);
        due(x.mistake(3, 0), 30 - 4);
        due(x.order(3, 1), 2);
        due(x.mistake(3, 1), 30 - 9);
        due(x.order(3, 2), 1);
        due(x.mistake(3, 2), 20);
        due(x.mistake(3, 3), NONE);
        due(x.mistake(0, 0), 1);
        due(x.mistake(0, 1), NONE);
        due(new PrimedPumps().mistake(0, 0), NONE);
    }

    private static void dear() {
        promise(23);
        PrimedPumps x = new PrimedPumps();
        due(x.dear(41), BEYOND);
        due(x.dear(-1), BEYOND);
        due(x.dear(40), NONE);
        x = road("pump at 0 gives 9;pump at 0 gives 30;spring at 0");
        due(x.dear(3), 0);
        due(x.dear(12), 1);
        due(x.dear(0), 2);
        due(x.dear(40), 0);
    }

    private static void spring() {
        promise(24);
        PrimedPumps x = road("pump at 20 gives 9");
        due(x.spring(-1), BEYOND);
        due(x.spring(41), BEYOND);
        due(x.spring(0), 0);
        // 6: 2 there, one short; a spring on the way at 5 (or at 10, 15, 20) would do, and at 0 already.
        due(x.spring(6), 0);
        x.rule(1, 2);
        x.go(21);
        x.change(0, 2, 30);
        // One short, none lost on a way of 1: only a spring at 20 or 21 makes it 10.
        due(x.spring(9), 20);
        for (int i = 1; i < 8; i++) {
            x.pump(0, 0, 9);
        }
        due(x.spring(2), FULL);
        due(x.spring(41), BEYOND);
        due(x.count(0), 8);
        due(new PrimedPumps().spring(0), 0);
        springElsewhere();
    }

    private static void springElsewhere() {
        PrimedPumps x = road("pump at 20 gives 30;spills 2");
        x.go(21);
        x.image();
        x.pump(0, 0, 60);
        x.most(9);
        x.undo();
        due(x.spring(9), 20);
        // Each mile spills a bucket: only where he is one more helps.
        PrimedPumps y = road("pump at 99 gives 60;pump at 99 gives 60;pump at 99 gives 60;spills 1;room 999");
        y.go(99);
        due(y.spring(19), 99);
        due(y.spring(20), 0);
    }

    private static void matters() {
        promise(25);
        PrimedPumps x = road("pump at 20 gives 30");
        due(x.matters(-1), BEYOND);
        due(x.matters(41), BEYOND);
        // 10: 30 without; with 20 he loses one each way, with 21 none.
        due(x.matters(10), 20);
        due(x.matters(40), NONE);
        // 9: never primed.
        due(x.matters(9), NONE);
        x.go(99);
        due(x.matters(10), 79);
        // By way of the pump nothing is lost from 80 on, and the barrel is full behind it.
        due(x.matters(40), 20);
        x.change(0, 1, 99);
        due(x.matters(40), 99);
        due(x.rule(1, 5), 5);
    }

    private static void room() {
        promise(26);
        PrimedPumps x = road("pump at 0 gives 9;pump at 0 gives 30");
        due(x.room(-1), BEYOND);
        due(x.room(41), BEYOND);
        due(x.room(0), 1);
        due(x.room(3), 9);
        due(x.room(10), 36);
        due(x.room(40), 66);
        due(x.rule(0, 40), 40);
        due(new PrimedPumps().room(0), 1);
        due(new PrimedPumps().room(7), 7);
    }

    private static void bears() {
        promise(27);
        PrimedPumps x = road("pump at 20 gives 20");
        due(x.bears(-1), BEYOND);
        due(x.bears(41), BEYOND);
        due(x.bears(10), 9);
        x.go(20);
        // At the pump 8 of 12 come for 12 less 4: home is 4 dear. With less than 4 more it's too little.
        x.change(0, 2, 12);
        due(x.bears(10), 6);
        x.change(0, 2, 1);
        due(x.bears(10), NONE);
        due(x.bears(0), 9);
        due(x.rule(2, 0), 0);
    }

    private static void odds() {
        promise(28);
        PrimedPumps x = road("pump at 0 gives 9 fails 4;pump at 0 gives 30 fails 6");
        due(x.odds(-1, 0), BEYOND);
        due(x.odds(41, 0), BEYOND);
        due(x.odds(0, -1), BEYOND);
        due(x.odds(0, 1000), BEYOND);
        // With 3 only the first can be run: 9 in 8 of 12, else 0.
        due(x.odds(3, 0), 12);
        due(x.odds(3, 1), 8);
        due(x.odds(3, 9), 8);
        due(x.odds(3, 10), 0);
        // With 4: 10, then 30 or 0; if the first fails 1, and the other can't.
        due(x.odds(4, 0), 144);
        due(x.odds(4, 1), 8 * 6 + 4 * 12);
        due(x.odds(4, 2), 8 * 6);
        due(x.odds(4, 30), 48);
        due(x.odds(4, 31), 0);
        due(new PrimedPumps().odds(5, 5), 1);
        promise(29);
        due(x.mean(-1), BEYOND);
        due(x.mean(41), BEYOND);
        due(x.mean(3), 72);
        due(x.mean(4), 8 * 6 * 30 + 4 * 12);
        due(x.mean(0), 0);
        due(x.count(6), 1);
        PrimedPumps y = road("pump at 0;pump at 0;pump at 0;pump at 0;pump at 0;pump at 0;pump at 0;pump at 0");
        y.rule(0, 999);
        due(y.mean(900), 948L * 429981696L);
        due(y.odds(900, 948), 429981696L);
        y.rule(0, 40);
        due(y.mean(40), 40);
    }

    private static void rust() {
        promise(30);
        PrimedPumps x = new PrimedPumps();
        due(x.rust(0), BEYOND);
        due(x.rust(13), BEYOND);
        due(x.rust(1), STATE);
        due(x.rust(12), STATE);
        for (int i = 0; i < 5; i++) {
            x.pump(0, 0, 9);
        }
        due(x.count(6), 1);
        int[] fails = new int[5];
        int z = 1;
        for (int n = 1; n <= 12; n++) {
            for (int i = 0; i < n; i++) {
                z = drawn(z);
                int p = (z >>> 8) % 5;
                z = drawn(z);
                fails[p] = (z >>> 8) % 12;
            }
            int any = 0;
            for (int f : fails) {
                any += f > 0 ? 1 : 0;
            }
            due(x.rust(n), any);
            due(x.count(6), z);
            for (int p = 0; p < 5; p++) {
                due(x.of(p, 3), fails[p]);
            }
        }
    }

    private static void barrel() {
        promise(32);
        PrimedPumps x = road("pump at 10 gives 9;pump at 20 gives 30");
        due(x.barrel(-1, 0), BEYOND);
        due(x.barrel(4, 1000), BEYOND);
        due(x.barrel(0, 1000), MISSING);
        x.sheet(0, 8, 0);
        due(x.barrel(0, 7), 7);
        due(x.barrel(0, 0), 0);
        due(x.barrel(0, 41), NONE);
        x.sheet(0, 8, 2);
        due(x.barrel(0, 1000), STATE);
        x.write(0, 1, 2);
        due(x.barrel(0, 5), STATE);
        x.write(0, 1, -1);
        due(x.barrel(0, 5), STATE);
        x.write(0, 1, 1);
        due(x.barrel(0, -1), BEYOND);
        due(x.barrel(0, 1000), BEYOND);
        // 8 as he begins: 6, 12; 10, 30; 26.
        due(x.barrel(0, 26), 8);
        // 7: 5, 11; 9, can't; 5. And 9 not run at 4: 2, 0, 0.
        due(x.barrel(0, 5), 7);
        due(x.barrel(0, 0), 0);
        due(x.barrel(0, 6), NONE);
        due(x.barrel(0, 36), 18);
        due(x.barrel(0, 37), NONE);
        x.sheet(1, 32, 9);
        due(x.barrel(1, 1000), STATE);
    }

    private static void judge() {
        promise(33);
        PrimedPumps x = road("pump at 10 gives 9;pump at 20 gives 30;spring at 99");
        due(x.judge(4, 0), BEYOND);
        due(x.judge(-1, -1), BEYOND);
        due(x.judge(0, -1), MISSING);
        x.sheet(0, 16, 0);
        due(x.judge(0, -1), BEYOND);
        due(x.judge(0, 41), BEYOND);
        due(x.judge(0, 0), 0);
        x.sheet(0, 16, 3);
        x.write(0, 1, 1);
        x.write(0, 2, 2);
        due(x.judge(0, 8), 0);
        due(x.judge(0, 7), 2);
        due(x.judge(0, 4), 1);
        x.write(0, 2, 3);
        due(x.judge(0, 8), 3);
        x.write(0, 2, -1);
        due(x.judge(0, 8), 3);
        x.write(0, 2, 1);
        due(x.judge(0, 8), 3);
        due(x.judge(0, 7), 2);
        x.write(0, 0, 2);
        x.write(0, 1, 2);
        due(x.judge(0, 40), 2);
        x.go(99);
        x.run(2);
        due(x.judge(0, 40), 1);
        int[] noPumps = {8, -1, MAX, MIN, 10, 79};
        for (int no : noPumps) {
            PrimedPumps y = road("pump at 0;pump at 0;pump at 0;pump at 0;pump at 0;pump at 0;pump at 0;pump at 0");
            y.sheet(3, 32, 2);
            y.write(3, 1, no);
            due(y.judge(3, 40), 2);
            due(y.barrel(3, 40), STATE);
            y.write(3, 0, no);
            due(y.judge(3, 40), 1);
        }
    }

    private static void feed() {
        promise(34);
        PrimedPumps x = new PrimedPumps();
        due(x.feed(0, 0), BEYOND);
        due(x.feed(0, 5), BEYOND);
        due(x.feed(0, -1), BEYOND);
        for (int i = 1; i <= 29; i++) {
            due(x.feed(MIN, 4), 4 * i);
        }
        due(x.feed(0, 2), 118);
        due(x.feed(0, 3), FULL);
        due(x.feed(0, 5), BEYOND);
        due(x.count(5), 118);
        due(x.feed(0, 2), 120);
        due(x.feed(0, 1), FULL);
        promise(35);
        due(x.wipe(), 120);
        due(x.wipe(), 0);
        due(x.count(5), 0);
        promise(34);
        row = 50;
        // The lowest bytes alone, the highest of these first.
        x.feed(0x3b726f6f, 3);
        x.feed(0x7f7f6d33, 2);
        due(x.text(), 1);
        due(x.rule(0, 40), 3);
        due(x.count(5), 0);
    }

    private static void texts() {
        promise(36);
        PrimedPumps x = new PrimedPumps();
        due(told(x, "pump at 0"), 1);
        due(told(x, "  deep  at7gives60fails11  ;  spring at 99 gives 1 fails 0;tired at 007;shared at 5 fails 3"), 4);
        due(told(x, "morning at 1;faint at 2;room 999;spills 0;water 999;drought 9;spills 99;water 0;room 1"), 9);
        int[][] pumps = {{0, 0, 9, 0}, {1, 7, 60, 11}, {2, 99, 1, 0}, {3, 7, 9, 0}, {4, 5, 9, 3}, {5, 1, 9, 0}, {6, 2, 9, 0}};
        due(x.count(0), pumps.length);
        for (int p = 0; p < pumps.length; p++) {
            for (int what = 0; what < 4; what++) {
                due(x.of(p, what), pumps[p][what]);
            }
        }
        due(x.rule(0, 1), 1);
        due(x.rule(1, 5), 99);
        due(x.rule(2, 0), 9);
        due(x.now(1), 0);
        due(x.status(-1), 0);
        due(told(x, "water 1"), 1);
        due(x.now(1), 1);
        due(told(x, "room 00000000000000000000000000000000000000005"), 1);
        due(x.rule(0, 5), 5);
        due(told(x, "pump at 3;pump at 3"), -1 - 10);
        due(x.count(0), 7);
        due(told(x, "pump at 3"), 1);
        due(told(x, "room 7;pump at 3"), -1 - 7);
        due(x.rule(0, 5), 5);
        due(x.status(-1), 0);
    }

    private static void textFaults() {
        promise(36);
        row = 100;
        String[] texts = {"", "   ", ";", "pump", "pump ", "pump  at", "pump at ", "pump at x", "pump at 100", "pump at 1000",
            "pump at 3 gives", "pump at 3 gives 0", "pump at 3 gives 61", "pump at 3 gives x", "pump at 3 fails 12",
            "pump at 3 fails", "pump at 3 fails 1 gives 1", "pump at 3 gives 1 gives 1", "pump at 3 3", "pump at 3,",
            "pumpat 3", "pumps at 3", "Pump at 3", "pump at 3;", "pump at 3; ", "pump at 3;;", "room 0", "room 1000", "room",
            "room room", "spills 100", "water 41", "drought 10", "drought", "3", "at 3", "gives 3", "pump\tat 3", "room 5 spills",
            "pump 3", "pump ;at 3", "well at 3", "room 5;water 6", "water 6;room 5", "pump at -1", "room 3\n", "water 99999999999",
            "spills", "water", "spills ;", "gump at 3", "pump it 3", "roomz 5", "room 5z", "pump at 3 gives 3 kails 3"};
        int[] faults = {0, 3, 0, 4, 5, 8, 8, 8, 8, 8,
            15, 16, 16, 16, 16,
            15, 18, 18, 10, 9,
            0, 0, 0, 10, 11, 10, 5, 5, 4,
            5, 7, 6, 8, 7, 0, 0, 0, 4, 7,
            5, 5, 0, 13, 13, 8, 6, 6,
            6, 5, 7, 0, 5, 0, 6, 18};
        for (int i = 0; i < texts.length; i++) {
            PrimedPumps x = new PrimedPumps();
            x.image();
            due(told(x, texts[i]), -1 - faults[i]);
            due(x.count(5), 0);
            due(x.count(0), 0);
            due(x.rule(0, 40), 40);
            due(x.rule(1, 5), 5);
            due(x.now(1), 0);
            due(x.status(-1), 0);
        }
    }

    private static void textSemantics() {
        promise(36);
        row = 1000;
        PrimedPumps x = new PrimedPumps();
        x.water(20);
        due(told(x, "room 19"), -1 - 5);
        due(told(x, "room 20"), 1);
        due(told(x, "water 10;room 10"), 2);
        due(told(x, "water 11"), -1 - 6);
        due(told(x, "room 11;water 11"), 2);
        x.rule(2, 5);
        due(told(x, "drought 0;water 0"), 2);
        due(x.rule(2, 0), 0);
        // What an earlier text left behind the end isn't read.
        due(told(x, "room 75"), 1);
        due(told(x, "room 7"), 1);
        due(x.rule(0, 7), 7);
        due(told(x, "rooms"), -1 - 0);
        due(told(x, "room"), -1 - 4);
        for (int b = 0; b < 256; b++) {
            PrimedPumps y = new PrimedPumps();
            y.feed(b, 1);
            feedAll(y, "room 7");
            boolean letter = b >= 'a' && b <= 'z';
            due(y.text(), b == ' ' ? 1 : -1 - 0);
            feedAll(y, "room 7");
            y.feed(b, 1);
            boolean digit = b >= '0' && b <= '9';
            due(y.text(), b == ' ' || digit ? 1 : b == ';' ? -1 - 7 : letter ? -1 - 6 : -1 - 6);
        }
        // A tape that is full to the brim.
        PrimedPumps z = new PrimedPumps();
        StringBuilder brim = new StringBuilder();
        for (int i = 0; i < 13; i++) {
            brim.append("spills 7;");
        }
        brim.append("xx ");
        feedAll(z, brim.toString());
        due(z.count(5), 120);
        due(z.text(), -1 - 117);
        feedAll(z, brim.toString().replace(";xx ", "    "));
        due(z.count(5), 120);
        due(z.text(), 13);
        feedAll(z, brim.toString().replace(";xx ", "0000").replaceFirst("70000$", "00007"));
        due(z.count(5), 120);
        due(z.text(), 13);
        feedAll(z, brim.toString().replace("xx ", "xxx"));
        due(z.count(5), 120);
        due(z.text(), -1 - 117);
        // A text leaves all else as it was.
        PrimedPumps t = road("spring at 5;pump at 5");
        t.go(5);
        t.run(0);
        t.hold(3, 1);
        t.seed(77);
        due(told(t, "spring at 6"), 1);
        due(t.of(0, 5), 1);
        due(t.of(0, 4), 1);
        due(t.of(2, 5), 0);
        due(t.now(0), 5);
        due(t.as(3, 0), 1);
        due(t.count(6), 77);
    }

    private static void spots() {
        promise(37);
        PrimedPumps x = new PrimedPumps();
        due(x.hold(0, 0), BEYOND);
        due(x.hold(-1, -1), BEYOND);
        due(x.hold(10, -1), BEYOND);
        due(x.hold(9, -1), 1);
        for (int kind = 0; kind < 7; kind++) {
            due(x.pump(kind, 0, 9), kind);
            due(x.hold(kind, kind), 1);
        }
        due(x.hold(9, -2), BEYOND);
        due(x.hold(9, 7), BEYOND);
        due(x.count(7), 7);
        promise(38);
        String[] kindsOf = {"0", "01", "02", "03", "014", "05", "036"};
        for (int spot = 0; spot < 7; spot++) {
            for (int kind = 0; kind < 7; kind++) {
                due(x.as(spot, kind), kindsOf[spot].indexOf('0' + kind) >= 0 ? spot : KIND);
            }
        }
        due(x.as(7, 0), MISSING);
        due(x.as(7, 7), BEYOND);
        due(x.as(0, -1), BEYOND);
        due(x.as(10, 0), BEYOND);
        due(x.as(-1, 0), BEYOND);
        x.change(0, 0, 6);
        due(x.as(0, 3), 0);
        due(x.as(0, 1), KIND);
        x.hold(9, 0);
        due(x.as(9, 6), 0);
        x.hold(9, -1);
        due(x.as(9, 6), MISSING);
        due(x.count(7), 7);
    }

    private static void sheet() {
        promise(39);
        PrimedPumps x = new PrimedPumps();
        due(x.sheet(-1, 8, 1), BEYOND);
        due(x.sheet(4, 8, -1), BEYOND);
        due(x.sheet(0, 7, -1), BEYOND);
        due(x.sheet(0, 64, 1), BEYOND);
        due(x.sheet(0, 8, -1), SIZE);
        due(x.sheet(0, 0, -1), SIZE);
        due(x.sheet(0, 8, 41), BEYOND);
        due(x.sheet(0, 0, 41), BEYOND);
        due(x.load(0), MISSING);
        due(x.sheet(0, 8, 40), 40);
        due(x.sheet(1, 16, 0), 0);
        due(x.sheet(2, 32, 1), 1);
        due(x.load(1), 0);
        due(x.sheet(0, 0, 5), 0);
        due(x.load(0), MISSING);
        x.pump(0, 0, 9);
        x.sheet(3, 8, 1);
        x.write(3, 0, 50);
        due(x.load(3), 1);
        // Made anew it is all 0.
        due(x.sheet(3, 8, 2), 2);
        due(x.load(3), 0);
        due(x.of(0, 2), 50);
    }

    private static void write() {
        promise(40);
        PrimedPumps x = road("pump at 0");
        due(x.write(4, 0, 0), BEYOND);
        due(x.write(-1, 0, 0), BEYOND);
        due(x.write(0, -1, 0), MISSING);
        int[] bits = {8, 16, 32};
        for (int b : bits) {
            x.sheet(0, b, 2);
            due(x.write(0, -1, 0), BEYOND);
            due(x.write(0, 2, 0), BEYOND);
            due(x.write(0, 0, b), 1);
            due(x.load(0), 1);
            due(x.of(0, 2), b);
            due(x.write(0, 0, 256 + 7), 1);
            due(x.load(0), b == 8 ? 1 : 0);
            due(x.write(0, 0, 65536 + 5), 1);
            due(x.load(0), b == 32 ? 0 : 1);
            due(x.write(0, 0, 255), 1);
            due(x.load(0), 0);
        }
    }

    private static void loadAs(PrimedPumps x, int s, int... gives) {
        due(x.load(s), gives.length);
        for (int p = 0; p < gives.length; p++) {
            due(x.of(p, 2), gives[p]);
        }
    }

    private static void copy() {
        promise(41);
        PrimedPumps x = road("pump at 0;pump at 0;pump at 0;pump at 0;pump at 0;pump at 0");
        x.sheet(0, 8, 5);
        due(x.copy(0, 0, 4, 0, 0), BEYOND);
        due(x.copy(-1, 0, 1, 0, 0), BEYOND);
        due(x.copy(0, 0, 1, 0, 0), MISSING);
        due(x.copy(1, -1, 0, 0, 0), MISSING);
        x.sheet(1, 16, 3);
        due(x.copy(0, -1, 1, 0, 0), KIND);
        x.sheet(1, 8, 3);
        int[][] bad = {{-1, 0, 0}, {0, -1, 0}, {0, 0, -1}, {0, 0, 4}, {3, 0, 3}, {0, 1, 3}, {6, 0, 0}, {0, 4, 0},
            {MAX, 0, 1}, {0, MAX, 1}, {0, 0, MAX}, {1, 1, MAX}, {MIN, MIN, MIN}};
        for (int[] b : bad) {
            due(x.copy(0, b[0], 1, b[1], b[2]), BEYOND);
        }
        due(x.copy(0, 5, 1, 3, 0), 0);
        for (int i = 0; i < 5; i++) {
            x.write(0, i, i + 1);
        }
        due(x.copy(0, 2, 1, 0, 3), 3);
        loadAs(x, 1, 3, 4, 5);
        due(x.copy(0, 0, 0, 1, 4), 4);
        loadAs(x, 0, 1, 1, 2, 3, 4);
        due(x.copy(0, 1, 0, 0, 4), 4);
        loadAs(x, 0, 1, 2, 3, 4, 4);
        due(x.copy(0, 0, 0, 0, 5), 5);
        loadAs(x, 0, 1, 2, 3, 4, 4);
    }

    private static void load() {
        promise(42);
        PrimedPumps x = road("pump at 0;pump at 0;spring at 0");
        due(x.load(4), BEYOND);
        due(x.load(-1), BEYOND);
        due(x.load(0), MISSING);
        x.sheet(0, 32, 5);
        for (int i = 0; i < 5; i++) {
            x.write(0, i, 60 - i);
        }
        loadAs(x, 0, 60, 59, 58);
        x.write(0, 0, 1);
        x.write(0, 1, 61);
        loadAs(x, 0, 1);
        due(x.of(1, 2), 59);
        x.write(0, 1, 0);
        loadAs(x, 0, 1);
        x.write(0, 1, -1);
        loadAs(x, 0, 1);
        due(new PrimedPumps().load(3), MISSING);
    }

    private static void images() {
        promise(43);
        PrimedPumps x = road("tired at 0 gives 20;pump at 20;water 30");
        x.sheet(0, 8, 1);
        x.hold(2, 1);
        x.run(0);
        due(x.image(), 1);
        int[] counts = new int[8];
        int[] nows = new int[7];
        for (int i = 0; i < 7; i++) {
            counts[i] = x.count(i);
            nows[i] = x.now(i);
        }
        change(x);
        promise(44);
        due(x.undo(), 2);
        for (int i = 0; i < 7; i++) {
            due(x.count(i), i == 5 ? 2 : counts[i]);
            due(x.now(i), nows[i]);
        }
        due(x.of(0, 4), 1);
        due(x.of(0, 5), 1);
        due(x.of(1, 0), 0);
        due(x.of(1, 1), 20);
        due(x.of(1, 3), 0);
        due(x.as(2, 0), 1);
        due(x.as(3, 0), MISSING);
        due(x.rule(0, 40), 40);
        due(x.rule(1, 5), 5);
        due(x.rule(2, 0), 0);
        due(x.load(0), 1);
        due(x.of(0, 2), 33);
        // It stays kept, and is the latest.
        due(x.undo(), 2);
        due(x.of(0, 2), 20);
        x.pump(0, 5, 5);
        due(x.image(), 1);
        x.pump(0, 6, 6);
        due(x.undo(), 3);
        promise(45);
        due(x.tear(), 1);
        due(x.tear(), 0);
        due(x.undo(), NONE);
        due(x.count(0), 3);
        due(x.image(), 1);
        due(x.undo(), 3);
        due(x.status(3), 1);
        imageOnTheWay();
    }

    private static void imageOnTheWay() {
        promise(44);
        row = 100;
        PrimedPumps x = road("spring at 30;spring at 30");
        x.go(30);
        x.run(0);
        x.image();
        x.run(1);
        x.go(7);
        x.undo();
        due(x.now(0), 30);
        due(x.now(3), 3);
        due(x.of(0, 5), 1);
        due(x.of(1, 5), 0);
        due(x.run(1), 2);
        x.night();
        x.undo();
        due(x.now(4), 0);
        due(x.of(0, 5), 1);
        due(x.pump(2, 30, 1), 2);
        x.run(2);
        x.undo();
        due(x.count(0), 2);
        due(x.of(2, 0), BEYOND);
        due(x.pump(2, 30, 1), 2);
        due(x.of(2, 4), 0);
        due(x.of(2, 5), 0);
    }

    /** Changes all that there is. */
    private static void change(PrimedPumps x) {
        x.go(20);
        x.run(1);
        x.water(30);
        x.go(0);
        x.pour();
        x.night();
        x.rule(0, 50);
        x.rule(1, 7);
        x.rule(2, 3);
        x.rule(3, 20);
        x.seed(99);
        x.hold(2, -1);
        x.hold(3, 0);
        x.change(1, 0, 4);
        x.change(1, 1, 44);
        x.change(1, 3, 4);
        x.pump(0, 1, 1);
        x.feed(0, 2);
        x.write(0, 0, 33);
        x.water(40);
        x.change(0, 2, 60);
        x.run(0);
    }

    private static void count() {
        promise(46);
        PrimedPumps x = road("tired at 0 gives 20;deep at 0 gives 11;faint at 0 gives 7;water 20");
        due(x.count(-1), BEYOND);
        due(x.count(8), BEYOND);
        due(x.count(0), 3);
        due(x.count(1), 0);
        due(x.count(3), 38);
        due(x.count(4), 7 + 6 + 4);
        x.run(0);
        x.run(1);
        due(x.count(1), 2);
        due(x.count(2), 2);
        due(x.count(3), 37);
        x.night();
        x.run(0);
        due(x.count(1), 1);
        due(x.count(2), 3);
        x.feed(0, 3);
        due(x.count(5), 3);
        due(x.count(6), 1);
        x.hold(0, 2);
        x.hold(1, 2);
        due(x.count(7), 2);
        x.rule(3, 12);
        due(x.count(3), 18 + 11);
        due(x.count(4), 6 + 6 + 1);
    }

    private static void status() {
        promise(47);
        PrimedPumps x = new PrimedPumps();
        due(x.status(-2), BEYOND);
        due(x.status(0), 1);
        due(x.status(7), BEYOND);
        due(x.status(0), 2);
        due(x.status(-1), 2);
        x.image();
        for (int i = 0; i < 9; i++) {
            x.pump(0, 0, 9);
        }
        due(x.status(1), 1);
        x.hold(0, 0);
        x.as(0, 1);
        due(x.status(2), 1);
        x.leastFor(999);
        due(x.status(3), 1);
        x.fill(1);
        due(x.status(4), 1);
        x.as(1, 1);
        due(x.status(5), 1);
        x.sheet(0, 8, -1);
        due(x.status(6), 1);
        due(x.odds(0, 1000), BEYOND);
        due(x.mean(-1), BEYOND);
        due(x.status(0), 4);
        due(x.status(-1), 10);
        x.undo();
        x.tear();
        due(x.status(-1), 10);
        due(x.text(), -1);
        due(x.status(-1), 10);
        due(x.undo(), NONE);
        due(x.status(3), 2);
        due(x.status(-1), 11);
    }
}
