/** Each sentence of the terms 1 and 2 and of promises 1 to 13 that names a boundary. */
public final class RoadBoundariesTest extends Sentences {
    private static final int[] NO_PUMPS = {-1, 7, 8, MIN, MAX};

    public static void main(String[] args) {
        newObject();
        findings();
        newPumps();
        ofPumps();
        plainYields();
        wornYields();
        hourlyYields();
        needs();
        change();
        rule();
        water();
        now();
        spilling();
        hours();
        lastDay();
        runs();
        runsOff();
        fails();
        can();
        pour();
        fill();
        night();
        end();
    }

    // ---- promises 1 and 2

    private static void newObject() {
        sentence("1: All as at first; no PUMPS");
        PrimedPumps x = new PrimedPumps();
        for (int what = 0; what < 7; what++) {
            due(x.now(what), 0);
        }
        int[] counts = {0, 0, 0, 0, 0, 0, 1, 0};
        for (int what = 0; what < 8; what++) {
            due(x.count(what), counts[what]);
        }
        due(x.rule(0, 1), 40);
        due(x.rule(1, 1), 5);
        due(x.rule(2, 1), 0);
        due(x.rule(3, 1), 0);
        for (int which = -1; which < 7; which++) {
            due(x.status(which), 0);
        }
        sentence("1: SPOTS hold nothing at first, SHEETS are MISSING at first");
        for (int spot = 0; spot < 10; spot++) {
            due(x.as(spot, 0), MISSING);
        }
        for (int s = 0; s < 4; s++) {
            due(x.load(s), MISSING);
        }
        sentence("1: THE TAPE is empty");
        due(x.wipe(), 0);
        due(x.text(), -1);
        sentence("1: no image is kept");
        due(x.undo(), NONE);
        due(x.tear(), 0);
        sentence("1: one object knows nothing of another");
        PrimedPumps y = in(Sentences::busy);
        due(y.count(0), 7);
        due(new PrimedPumps().count(0), 0);
        same(Sentences::fresh, z -> new PrimedPumps().pump(0, 0, 9));
    }

    private static void findings() {
        sentence("FINDINGS are answers below -1000000: LOW is -1000001; LOW BEYOND, .. LOW - 6 SIZE (in longs, too)");
        PrimedPumps x = in(Sentences::crowded);
        due(x.of(8, 0), -1000001);
        due(x.pump(0, 0, 9), -1000002);
        due(x.as(9, 1), -1000003);
        due(x.leastFor(999), -1000004);
        due(x.run(0), -1000005);
        due(x.load(3), -1000006);
        due(x.sheet(0, 8, -1), -1000007);
        due(x.odds(-1, 0), -1000001L);
        due(x.mean(-1), -1000001L);
    }

    private static void newPumps() {
        sentence("2: PUMPS 0, 1, .. (at most 8). FULL.");
        PrimedPumps x = new PrimedPumps();
        for (int p = 0; p < 8; p++) {
            due(x.pump(0, 0, 9), p);
            due(x.count(0), p + 1);
        }
        refused(Sentences::crowded, FULL, y -> y.pump(0, 0, 9));
        refused(Sentences::crowded, FULL, y -> y.pump(6, 99, 60));
        sentence("2: KINDS 0 to 6");
        for (int kind = 0; kind <= 6; kind++) {
            int good = kind;
            due(in(y -> y.pump(good, 5, 9)).of(0, 0), kind);
        }
        for (int bad : new int[] {-1, 7, MIN, MAX}) {
            refused(Sentences::busy, BEYOND, y -> y.pump(bad, 0, 9));
        }
        sentence("2: each at a MILE (0 to 99)");
        due(in(y -> y.pump(0, 0, 9)).of(0, 1), 0);
        due(in(y -> y.pump(0, 99, 9)).of(0, 1), 99);
        for (int bad : new int[] {-1, 100, MIN, MAX}) {
            refused(Sentences::busy, BEYOND, y -> y.pump(0, bad, 9));
        }
        sentence("2: with GIVES (1 to 60 buckets)");
        due(in(y -> y.pump(0, 0, 1)).of(0, 2), 1);
        due(in(y -> y.pump(0, 0, 60)).of(0, 2), 60);
        for (int bad : new int[] {0, -1, 61, MIN, MAX}) {
            refused(Sentences::busy, BEYOND, y -> y.pump(0, 0, bad));
        }
        sentence("2: FAILS 0 at first, USED 0 at first, not TODAY");
        x = in(y -> y.pump(3, 0, 9));
        due(x.of(0, 3), 0);
        due(x.of(0, 4), 0);
        due(x.of(0, 5), 0);
        sentence("2: BEYOND is told before FULL");
        refused(Sentences::crowded, BEYOND, y -> y.pump(7, 0, 9));
        refused(Sentences::crowded, BEYOND, y -> y.pump(0, 100, 9));
        refused(Sentences::crowded, BEYOND, y -> y.pump(0, 0, 0));
        placesBehindUndo();
    }

    private static void placesBehindUndo() {
        sentence("2: a new PUMP has nothing of one that undo() took away");
        PrimedPumps x = new PrimedPumps();
        x.image();
        x.pump(2, 0, 60);
        x.change(0, 3, 0);
        x.run(0);
        x.change(0, 3, 11);
        due(x.undo(), 0);
        due(x.pump(0, 7, 8), 0);
        int[] traits = {0, 7, 8, 0, 0, 0, 8, 3};
        for (int what = 0; what < 8; what++) {
            due(x.of(0, what), traits[what]);
        }
    }

    // ---- promise 3

    private static void ofPumps() {
        sentence("3: Of a PUMP: what 0 KIND .. 7 NEED. BEYOND.");
        PrimedPumps x = in(Sentences::busy);
        int[] second = {0, 12, 20, 0, 1, 1, 19, 7};
        for (int what = 0; what < 8; what++) {
            due(x.of(1, what), second[what]);
        }
        due(x.of(6, 0), 6);
        for (int bad : NO_PUMPS) {
            refused(Sentences::busy, BEYOND, y -> y.of(bad, 0));
        }
        refused(Sentences::fresh, BEYOND, y -> y.of(0, 0));
        for (int bad : new int[] {-1, 8, MIN, MAX}) {
            refused(Sentences::busy, BEYOND, y -> y.of(0, bad));
        }
        sentence("3: it changes nothing");
        only(Sentences::busy, 31, y -> y.of(0, 1));
        only(Sentences::busy, 8, y -> y.of(0, 6));
        sentence("3: 5 1 if TODAY, else 0");
        due(x.of(0, 5), 0);
        due(x.of(1, 5), 1);
        x.night();
        due(x.of(1, 5), 0);
    }

    /** A pump that has run so often. */
    private static PrimedPumps pumpOf(int kind, int gives, int used, int drought, int hour) {
        PrimedPumps x = new PrimedPumps();
        x.pump(2, 0, gives);
        for (int i = 0; i < used; i++) {
            x.run(0);
            x.night();
        }
        x.change(0, 0, kind);
        x.rule(2, drought);
        x.rule(3, hour);
        return x;
    }

    private static void yieldIs(int kind, int gives, int used, int drought, int hour, int yield) {
        due(pumpOf(kind, gives, used, drought, hour).of(0, 6), yield);
    }

    private static void plainYields() {
        sentence("3: PUMP: GIVES less DROUGHT (0 at least)");
        yieldIs(0, 60, 0, 0, 0, 60);
        yieldIs(0, 1, 0, 0, 0, 1);
        yieldIs(0, 10, 0, 9, 0, 1);
        yieldIs(0, 9, 0, 9, 0, 0);
        yieldIs(0, 8, 0, 9, 0, 0);
        yieldIs(0, 1, 0, 9, 0, 0);
        yieldIs(0, 9, 20, 0, 23, 9);
        sentence("3: DEEP as the KIND above");
        yieldIs(1, 60, 0, 0, 0, 60);
        yieldIs(1, 10, 5, 9, 12, 1);
        yieldIs(1, 8, 0, 9, 0, 0);
        sentence("3: SHARED: half of what a DEEP one has (cut)");
        yieldIs(4, 60, 0, 0, 0, 30);
        yieldIs(4, 59, 0, 0, 0, 29);
        yieldIs(4, 2, 0, 0, 0, 1);
        yieldIs(4, 1, 0, 0, 0, 0);
        yieldIs(4, 11, 0, 9, 0, 1);
        yieldIs(4, 10, 0, 9, 0, 0);
        yieldIs(4, 1, 0, 9, 0, 0);
        sentence("3: SPRING: 1, whatever else");
        yieldIs(2, 60, 0, 0, 0, 1);
        yieldIs(2, 1, 0, 9, 0, 1);
        yieldIs(2, 1, 30, 9, 23, 1);
        yieldIs(2, 1, 0, 0, 12, 1);
    }

    private static void wornYields() {
        sentence("3: TIRED: as a PUMP, less USED (0 at least)");
        yieldIs(3, 5, 0, 0, 0, 5);
        yieldIs(3, 5, 4, 0, 0, 1);
        yieldIs(3, 5, 5, 0, 0, 0);
        yieldIs(3, 5, 6, 0, 0, 0);
        yieldIs(3, 60, 59, 0, 12, 1);
        yieldIs(3, 60, 61, 0, 23, 0);
        yieldIs(3, 12, 2, 9, 0, 1);
        yieldIs(3, 12, 3, 9, 0, 0);
        yieldIs(3, 1, 1, 9, 0, 0);
        sentence("3: FAINT: as a TIRED one");
        yieldIs(6, 5, 4, 0, 0, 1);
        yieldIs(6, 5, 5, 0, 0, 0);
        yieldIs(6, 5, 6, 0, 0, 0);
        yieldIs(6, 12, 2, 9, 11, 1);
    }

    private static void hourlyYields() {
        sentence("3: FAINT: but 0 from HOUR 12 on");
        yieldIs(6, 60, 0, 0, 0, 60);
        yieldIs(6, 60, 0, 0, 11, 60);
        yieldIs(6, 60, 0, 0, 12, 0);
        yieldIs(6, 60, 0, 0, 13, 0);
        yieldIs(6, 60, 0, 0, 23, 0);
        sentence("3: MORNING: as a PUMP, and 3 at HOURS below 9");
        yieldIs(5, 60, 0, 0, 0, 63);
        yieldIs(5, 60, 0, 0, 8, 63);
        yieldIs(5, 60, 0, 0, 9, 60);
        yieldIs(5, 60, 0, 0, 23, 60);
        yieldIs(5, 9, 0, 9, 8, 3);
        yieldIs(5, 8, 0, 9, 8, 3);
        yieldIs(5, 8, 0, 9, 9, 0);
        yieldIs(5, 9, 7, 0, 9, 9);
        sentence("3: the hour is the one that it is now");
        PrimedPumps x = road("faint at 0 gives 12;morning at 0 gives 12");
        x.rule(3, 11);
        x.go(9);
        due(x.of(0, 6), 12);
        x.go(19);
        due(x.of(0, 6), 0);
        x.rule(3, 8);
        due(x.of(1, 6), 15);
        x.go(29);
        due(x.of(1, 6), 12);
        x.night();
        due(x.of(0, 6), 12);
        due(x.of(1, 6), 15);
    }

    private static void needIs(int kind, int gives, int need) {
        due(pumpOf(kind, gives, 0, 0, 9).of(0, 7), need);
    }

    private static void needs() {
        sentence("3: NEED: PUMP: a third of YIELD, and 1 if that isn't a whole one");
        int[] thirds = {1, 1, 1, 2, 2, 2, 3};
        for (int gives = 1; gives <= 7; gives++) {
            needIs(0, gives, thirds[gives - 1]);
            needIs(3, gives, thirds[gives - 1]);
            needIs(5, gives, thirds[gives - 1]);
        }
        needIs(0, 60, 20);
        needIs(0, 58, 20);
        needIs(0, 57, 19);
        due(pumpOf(0, 9, 0, 9, 0).of(0, 7), 0);
        due(pumpOf(3, 9, 9, 0, 0).of(0, 7), 0);
        due(pumpOf(3, 9, 8, 0, 0).of(0, 7), 1);
        due(pumpOf(5, 57, 0, 0, 8).of(0, 7), 20);
        due(pumpOf(5, 58, 0, 0, 8).of(0, 7), 21);
        sentence("3: DEEP: half of YIELD, likewise");
        int[] halves = {1, 1, 2, 2, 3};
        for (int gives = 1; gives <= 5; gives++) {
            needIs(1, gives, halves[gives - 1]);
        }
        needIs(1, 60, 30);
        needIs(1, 59, 30);
        due(pumpOf(1, 9, 0, 9, 0).of(0, 7), 0);
        sentence("3: SHARED as the KIND above, of its own YIELD");
        needIs(4, 60, 15);
        needIs(4, 58, 15);
        needIs(4, 56, 14);
        needIs(4, 3, 1);
        needIs(4, 2, 1);
        needIs(4, 1, 0);
        sentence("3: SPRING: 0");
        needIs(2, 60, 0);
        needIs(2, 1, 0);
        sentence("3: FAINT: as a TIRED one, and 1");
        needIs(6, 1, 2);
        needIs(6, 3, 2);
        needIs(6, 4, 3);
        needIs(6, 60, 21);
        due(pumpOf(6, 5, 5, 0, 0).of(0, 7), 1);
        due(pumpOf(6, 60, 0, 0, 12).of(0, 7), 1);
    }

    // ---- promises 4 to 7

    private static void changes(int what, int least, int most) {
        PrimedPumps x = road("deep at 5 gives 7 fails 3");
        int was = x.of(0, what);
        due(x.change(0, what, least), was);
        due(x.of(0, what), least);
        due(x.change(0, what, most), least);
        due(x.of(0, what), most);
        due(x.change(0, what, was), most);
        for (int bad : new int[] {least - 1, most + 1, MIN, MAX}) {
            refused(Sentences::busy, BEYOND, y -> y.change(2, what, bad));
        }
    }

    private static void change() {
        sentence("4: KIND (what 0) becomes v: what it was");
        changes(0, 0, 6);
        sentence("4: MILE (1): 0 to 99");
        changes(1, 0, 99);
        sentence("4: GIVES (2): 1 to 60");
        changes(2, 1, 60);
        sentence("4: FAILS (3): 0 to 11 twelfths");
        changes(3, 0, 11);
        sentence("4: what 0 to 3. BEYOND.");
        for (int bad : new int[] {-1, 4, MIN, MAX}) {
            refused(Sentences::busy, BEYOND, y -> y.change(0, bad, 1));
        }
        sentence("4: of a PUMP. BEYOND.");
        for (int bad : NO_PUMPS) {
            refused(Sentences::busy, BEYOND, y -> y.change(bad, 1, 1));
        }
        refused(Sentences::fresh, BEYOND, y -> y.change(0, 1, 1));
        due(in(Sentences::busy).change(6, 1, 1), 12);
        sentence("4: USED and TODAY are not changed with it");
        PrimedPumps x = in(Sentences::busy);
        x.change(1, 0, 3);
        x.change(1, 2, 30);
        due(x.of(1, 4), 1);
        due(x.of(1, 5), 1);
        due(x.of(1, 6), 30 - 1 - 1);
    }

    private static void rules(int what, int least, int most) {
        PrimedPumps x = new PrimedPumps();
        int was = x.rule(what, least);
        due(x.rule(what, most), least);
        due(x.rule(what, was), most);
        due(x.rule(what, was), was);
        for (int bad : new int[] {least - 1, most + 1, MIN, MAX}) {
            refused(Sentences::fresh, BEYOND, y -> y.rule(what, bad));
            refused(Sentences::busy, BEYOND, y -> y.rule(what, bad));
        }
    }

    private static void rule() {
        sentence("5: ROOM (1 to 999)");
        rules(0, 1, 999);
        sentence("5: SPILLS (0 to 99)");
        rules(1, 0, 99);
        sentence("5: DROUGHT (0 to 9)");
        rules(2, 0, 9);
        sentence("5: HOUR (0 to 23)");
        rules(3, 0, 23);
        sentence("5: ROOM not below WATER");
        PrimedPumps x = new PrimedPumps();
        x.water(17);
        due(x.rule(0, 17), 40);
        due(x.rule(0, 16), BEYOND);
        refused(y -> y.water(17), BEYOND, y -> y.rule(0, 16));
        refused(Sentences::busy, BEYOND, y -> y.rule(0, 44));
        x.water(0);
        due(x.rule(0, 1), 17);
        due(x.rule(0, 0), BEYOND);
        sentence("5: what 0 to 3. BEYOND.");
        for (int bad : new int[] {-1, 4, MIN, MAX}) {
            refused(Sentences::busy, BEYOND, y -> y.rule(bad, 5));
        }
        sentence("5: HOUR becomes v, and neither DAY nor TODAY goes with it");
        x = in(Sentences::busy);
        due(x.rule(3, 23), 7);
        due(x.rule(3, 0), 23);
        due(x.now(3), 0);
        due(x.now(4), 1);
        due(x.count(1), 3);
    }

    private static void water() {
        sentence("6: WATER becomes v (0 to ROOM): what it was");
        PrimedPumps x = new PrimedPumps();
        due(x.water(40), 0);
        due(x.water(0), 40);
        due(x.now(1), 0);
        x.rule(0, 999);
        due(x.water(999), 0);
        due(x.now(1), 999);
        x.water(1);
        x.rule(0, 1);
        due(x.water(0), 1);
        due(x.water(1), 0);
        due(x.water(2), BEYOND);
        sentence("6: BEYOND.");
        for (int bad : new int[] {-1, 41, 999, MIN, MAX}) {
            refused(Sentences::fresh, BEYOND, y -> y.water(bad));
        }
        refused(Sentences::busy, BEYOND, y -> y.water(46));
        refused(y -> y.rule(0, 999), BEYOND, y -> y.water(1000));
        sentence("6: what is taken by hand is neither SPILT nor RUN OFF");
        x = in(Sentences::busy);
        int spilt = x.now(5);
        int ranOff = x.now(6);
        x.water(0);
        due(x.now(5), spilt);
        due(x.now(6), ranOff);
    }

    private static void now() {
        sentence("7: What 0 MILE .. 6 RUN OFF ever. BEYOND.");
        PrimedPumps x = in(Sentences::busy);
        int[] all = {12, 45, 60, 7, 1, 2, 3};
        for (int what = 0; what < 7; what++) {
            due(x.now(what), all[what]);
        }
        for (int bad : new int[] {-1, 7, MIN, MAX}) {
            refused(Sentences::busy, BEYOND, y -> y.now(bad));
        }
        only(Sentences::busy, 12, y -> y.now(0));
        sentence("7: SPILT ever: what was there to spill");
        x = road("water 3;spills 1");
        x.go(2);
        due(x.now(5), 2);
        x.go(99);
        due(x.now(5), 3);
        x.go(0);
        due(x.now(5), 3);
        x.water(40);
        x.go(40);
        due(x.now(5), 43);
    }

    // ---- promise 8

    private static void goes(int spills, int water, int from, int to, int then) {
        PrimedPumps x = new PrimedPumps();
        x.rule(1, spills);
        x.go(from);
        x.water(water);
        due(x.go(to), then);
        due(x.now(0), to);
        due(x.now(1), then);
        due(x.now(5), water - then);
    }

    private static void spilling() {
        sentence("8: THE CARRIER goes to a MILE (0 to 99)");
        goes(0, 7, 0, 99, 7);
        goes(0, 7, 99, 0, 7);
        for (int bad : new int[] {-1, 100, MIN, MAX}) {
            refused(Sentences::busy, BEYOND, y -> y.go(bad));
        }
        sentence("8: |a - b| by SPILLS buckets are lost (cut)");
        goes(5, 9, 0, 4, 9);
        goes(5, 9, 0, 5, 8);
        goes(5, 9, 0, 9, 8);
        goes(5, 9, 0, 10, 7);
        goes(5, 9, 50, 46, 9);
        goes(5, 9, 50, 45, 8);
        goes(5, 9, 50, 40, 7);
        goes(1, 9, 50, 51, 8);
        goes(1, 9, 50, 49, 8);
        goes(99, 9, 0, 98, 9);
        goes(99, 9, 0, 99, 8);
        goes(99, 9, 99, 0, 8);
        goes(5, 9, 50, 50, 9);
        sentence("8: 0 if SPILLS is 0");
        goes(0, 40, 1, 99, 40);
        sentence("8: not below 0");
        goes(1, 8, 50, 41, 0);
        goes(1, 9, 50, 41, 0);
        goes(1, 10, 50, 41, 1);
        goes(5, 0, 0, 99, 0);
        goes(1, 40, 0, 99, 0);
        sentence("8: each way is cut for itself");
        PrimedPumps x = new PrimedPumps();
        x.water(10);
        due(x.go(4), 10);
        due(x.go(8), 10);
        due(x.go(12), 10);
        due(x.go(0), 8);
    }

    /** From an hour over so many miles: the hour and the day then, and whether what ran still ran today. */
    private static void hoursOn(int hour, int miles, int then, int days) {
        PrimedPumps x = road("spring at 0;spring at 0");
        x.run(0);
        x.run(1);
        x.rule(3, hour);
        x.go(miles);
        due(x.now(3), then);
        due(x.now(4), days);
        due(x.count(1), days == 0 ? 2 : 0);
        due(x.count(2), 2);
    }

    private static void hours() {
        sentence("8: HOUR goes on by one for each 10 miles (cut)");
        hoursOn(0, 0, 0, 0);
        hoursOn(0, 9, 0, 0);
        hoursOn(0, 10, 1, 0);
        hoursOn(0, 19, 1, 0);
        hoursOn(0, 20, 2, 0);
        hoursOn(0, 99, 9, 0);
        PrimedPumps x = new PrimedPumps();
        x.go(5);
        x.go(14);
        x.go(5);
        due(x.now(3), 0);
        x.go(95);
        due(x.now(3), 9);
        x.go(0);
        due(x.now(3), 18);
        sentence("8: behind 23 comes 0 of the next DAY, and TODAY is no more for all");
        hoursOn(22, 10, 23, 0);
        hoursOn(23, 0, 23, 0);
        hoursOn(23, 9, 23, 0);
        hoursOn(23, 10, 0, 1);
        hoursOn(23, 19, 0, 1);
        hoursOn(23, 20, 1, 1);
        hoursOn(23, 99, 8, 1);
        hoursOn(14, 99, 23, 0);
        hoursOn(15, 99, 0, 1);
        hoursOn(22, 20, 0, 1);
        allEight(y -> {
            y.rule(3, 23);
            y.go(10);
        });
        sentence("13: TODAY is no more for all by night");
        allEight(PrimedPumps::night);
    }

    private static void allEight(State newDay) {
        PrimedPumps x = new PrimedPumps();
        for (int p = 0; p < 8; p++) {
            x.pump(2, 0, 9);
            x.run(p);
        }
        due(x.count(1), 8);
        newDay.on(x);
        due(x.now(4), 1);
        for (int p = 0; p < 8; p++) {
            due(x.of(p, 5), 0);
            due(x.of(p, 4), 1);
        }
    }

    /** DAY 999, which no object sees within the 512 calls that count; the bound is looked at all the same. */
    private static void untilLastDay(PrimedPumps x) {
        lay(x, "spring at 20;spring at 20;water 30");
        for (int day = 0; day < 998; day++) {
            x.night();
        }
    }

    private static void lastDay() {
        sentence("8: DAY 999 at most. STATE: DAY would be above 999.");
        PrimedPumps x = in(RoadBoundariesTest::untilLastDay);
        due(x.now(4), 998);
        x.rule(3, 23);
        due(x.go(10), 28);
        due(x.now(3), 0);
        due(x.now(4), 999);
        x.rule(3, 23);
        due(x.go(19), 27);
        due(x.go(0), STATE);
        due(x.go(100), BEYOND);
        x.rule(3, 15);
        due(x.go(99), 11);
        due(x.now(3), 23);
        refused(RoadBoundariesTest::onLastDay, STATE, y -> y.go(30));
        refused(RoadBoundariesTest::onLastDay, STATE, y -> y.go(99));
        sentence("8: BEYOND is told before STATE");
        refused(RoadBoundariesTest::onLastDay, BEYOND, y -> y.go(100));
        refused(RoadBoundariesTest::onLastDay, BEYOND, y -> y.go(-1));
        sentence("13: STATE: it would be above 999");
        x = in(RoadBoundariesTest::untilLastDay);
        due(x.night(), 999);
        due(x.night(), STATE);
        refused(RoadBoundariesTest::onLastDay, STATE, PrimedPumps::night);
    }

    private static void onLastDay(PrimedPumps x) {
        untilLastDay(x);
        x.night();
        x.go(20);
        x.run(0);
        x.rule(3, 23);
    }

    // ---- promises 9 and 10

    private static PrimedPumps atPump(String text, int water) {
        PrimedPumps x = road(text);
        x.water(water);
        return x;
    }

    private static void runs() {
        sentence("9: WATER is NEED or more: it is NEED less, then YIELD more");
        due(atPump("pump at 0 gives 20", 7).run(0), 20);
        due(atPump("pump at 0 gives 20", 6).run(0), STATE);
        due(atPump("deep at 0 gives 20", 10).run(0), 20);
        due(atPump("deep at 0 gives 20", 9).run(0), STATE);
        due(atPump("shared at 0 gives 20", 5).run(0), 10);
        due(atPump("shared at 0 gives 20", 4).run(0), STATE);
        due(atPump("faint at 0 gives 20", 8).run(0), 20);
        due(atPump("faint at 0 gives 20", 7).run(0), STATE);
        due(atPump("spring at 0", 0).run(0), 1);
        refused(x -> {
            lay(x, "pump at 0 gives 20 fails 5");
            x.water(6);
        }, STATE, x -> x.run(0));
        sentence("9: USED is one more, TODAY; not TODAY yet");
        PrimedPumps x = atPump("pump at 0 gives 20", 10);
        due(x.run(0), 23);
        due(x.of(0, 4), 1);
        due(x.of(0, 5), 1);
        due(x.run(0), STATE);
        refused(y -> {
            lay(y, "spring at 0 fails 1");
            y.change(0, 3, 0);
            y.run(0);
            y.change(0, 3, 11);
        }, STATE, y -> y.run(0));
        sentence("9: YIELD above 0");
        due(atPump("pump at 0 gives 9;drought 8", 40).run(0), 40);
        due(atPump("pump at 0 gives 9;drought 9", 40).run(0), STATE);
        due(atPump("shared at 0 gives 1", 40).run(0), STATE);
        refused(y -> lay(y, "shared at 0 gives 1 fails 11;water 40"), STATE, y -> y.run(0));
        sentence("9: a PUMP that is where he is. STATE: he isn't there");
        refused(y -> lay(y, "spring at 1 fails 11;water 40"), STATE, y -> y.run(0));
        refused(Sentences::busy, STATE, y -> y.run(2));
        sentence("9: BEYOND is told before STATE");
        for (int bad : NO_PUMPS) {
            refused(Sentences::busy, BEYOND, y -> y.run(bad));
        }
        refused(Sentences::fresh, BEYOND, y -> y.run(0));
        sentence("9: Behind that no HOUR goes");
        x = atPump("pump at 0 gives 20", 10);
        x.rule(3, 23);
        x.run(0);
        due(x.now(3), 23);
        due(x.now(4), 0);
    }

    private static void runsOff() {
        sentence("9: YIELD more (ROOM at most: the rest runs off)");
        int[] waters = {26, 27, 28, 40};
        int[] offs = {0, 0, 1, 13};
        for (int i = 0; i < waters.length; i++) {
            PrimedPumps x = atPump("pump at 0 gives 20", waters[i]);
            due(x.run(0), Math.min(40, waters[i] + 13));
            due(x.now(6), offs[i]);
            due(x.now(5), 0);
        }
        PrimedPumps x = road("pump at 0 gives 3;room 1;water 1;pump at 0 gives 60");
        due(x.run(0), 1);
        due(x.now(6), 2);
        x.rule(0, 999);
        x.water(999);
        due(x.run(1), 999);
        due(x.now(6), 2 + 40);
    }

    /** A z whose next draw has that rest by 12. */
    private static int seedFor(int rest) {
        for (int z = 0; z < 100000; z++) {
            if ((z * 1103515245 + 12345 >>> 8) % 12 == rest) {
                return z;
            }
        }
        throw new IllegalStateException("no draw has rest " + rest);
    }

    private static void fails() {
        sentence("9: It FAILS with its twelfths (by a draw: its rest by 12 below FAILS)");
        for (int twelfths = 1; twelfths <= 11; twelfths++) {
            for (int rest = 0; rest < 12; rest++) {
                PrimedPumps x = atPump("pump at 0 gives 20", 10);
                x.change(0, 3, twelfths);
                x.seed(seedFor(rest));
                due(x.run(0), rest < twelfths ? 3 : 23);
            }
        }
        sentence("9: if FAILS is above 0");
        for (int rest = 0; rest < 12; rest++) {
            PrimedPumps x = atPump("pump at 0 gives 20", 10);
            x.seed(seedFor(rest));
            due(x.run(0), 23);
            due(x.count(6), seedFor(rest));
        }
        sentence("9: then NEED is lost all the same, and it isn't TODAY (USED stays)");
        PrimedPumps x = atPump("tired at 0 gives 20 fails 1", 14);
        x.seed(seedFor(0));
        due(x.run(0), 7);
        due(x.of(0, 4), 0);
        due(x.of(0, 5), 0);
        due(x.of(0, 6), 20);
        due(x.now(5), 0);
        due(x.now(6), 0);
        x.seed(seedFor(0));
        due(x.run(0), 0);
        due(x.run(0), STATE);
        x.water(7);
        x.seed(seedFor(1));
        due(x.run(0), 20);
        due(x.of(0, 4), 1);
        sentence("9: DRAWS: z * 1103515245 + 12345 (an int), and gives z >>> 8");
        int[] seeds = {1, 0, -1, MAX, MIN, 1000001, -1000001};
        for (int z : seeds) {
            int next = (int) (z * 1103515245L + 12345L);
            int given = next >>> 8;
            PrimedPumps y = atPump("pump at 0 gives 20 fails 6", 10);
            y.seed(z);
            due(y.run(0), given % 12 < 6 ? 3 : 23);
            due(y.count(6), next);
        }
    }

    private static void can() {
        sentence("10: Whether he could: 1, 0 (where he is asked not)");
        only(x -> lay(x, "pump at 99 gives 20;water 7"), 1, x -> x.can(0));
        only(x -> lay(x, "pump at 99 gives 20;water 6"), 0, x -> x.can(0));
        only(x -> lay(x, "spring at 99"), 1, x -> x.can(0));
        only(x -> lay(x, "pump at 0 gives 9;drought 8;water 1"), 1, x -> x.can(0));
        only(x -> lay(x, "pump at 0 gives 9;drought 9;water 1"), 0, x -> x.can(0));
        only(x -> lay(x, "pump at 0 gives 20 fails 11;water 7"), 1, x -> x.can(0));
        only(Sentences::busy, 0, x -> x.can(1));
        only(Sentences::busy, 0, x -> x.can(3));
        only(Sentences::busy, 1, x -> x.can(2));
        sentence("10: BEYOND.");
        for (int bad : NO_PUMPS) {
            refused(Sentences::busy, BEYOND, x -> x.can(bad));
        }
        refused(Sentences::fresh, BEYOND, x -> x.can(0));
    }

    // ---- promises 11 to 13

    private static void pour() {
        sentence("11: At MILE 0 WATER comes to STORE: how much");
        PrimedPumps x = new PrimedPumps();
        due(x.pour(), 0);
        x.rule(0, 999);
        x.water(999);
        due(x.pour(), 999);
        due(x.now(1), 0);
        due(x.now(2), 999);
        x.water(1);
        due(x.pour(), 1);
        due(x.now(2), 1000);
        due(x.now(5), 0);
        sentence("11: STATE: he isn't there");
        refused(Sentences::busy, STATE, PrimedPumps::pour);
        refused(y -> y.go(1), STATE, PrimedPumps::pour);
        refused(y -> {
            y.water(40);
            y.go(99);
        }, STATE, PrimedPumps::pour);
    }

    /** So much in STORE, so much in the barrel, and such ROOM. */
    private static State village(int store, int water, int room) {
        return x -> {
            x.rule(0, 999);
            x.water(store);
            x.pour();
            x.water(water);
            x.rule(0, room);
        };
    }

    private static void fill() {
        sentence("12: v (1 to 999) buckets come from STORE to WATER: WATER then");
        PrimedPumps x = in(village(999, 0, 999));
        due(x.fill(1), 1);
        due(x.now(2), 998);
        due(in(village(999, 0, 999)).fill(999), 999);
        for (int bad : new int[] {0, -1, 1000, MIN, MAX}) {
            refused(village(999, 3, 999), BEYOND, y -> y.fill(bad));
        }
        sentence("12: STATE: STORE has not so much");
        x = in(village(7, 0, 40));
        due(x.fill(7), 7);
        due(x.now(2), 0);
        refused(village(7, 0, 40), STATE, y -> y.fill(8));
        refused(village(0, 0, 40), STATE, y -> y.fill(1));
        sentence("12: STATE: or ROOM hasn't");
        due(in(village(99, 30, 40)).fill(10), 40);
        refused(village(99, 30, 40), STATE, y -> y.fill(11));
        refused(village(99, 40, 40), STATE, y -> y.fill(1));
        due(in(village(99, 0, 1)).fill(1), 1);
        sentence("12: STATE: he isn't there");
        refused(Sentences::busy, STATE, y -> y.fill(1));
        refused(y -> {
            village(20, 0, 40).on(y);
            y.go(1);
        }, STATE, y -> y.fill(5));
        sentence("12: BEYOND is told before STATE");
        refused(Sentences::busy, BEYOND, y -> y.fill(0));
        refused(Sentences::busy, BEYOND, y -> y.fill(1000));
        refused(village(0, 40, 40), BEYOND, y -> y.fill(0));
    }

    private static void night() {
        sentence("13: He rests till HOUR 0 of the next DAY: DAY");
        for (int hour = 0; hour < 24; hour += 23) {
            PrimedPumps x = in(Sentences::busy);
            x.rule(3, hour);
            due(x.night(), 2);
            due(x.now(3), 0);
            due(x.now(4), 2);
            due(x.now(0), 12);
            due(x.now(1), 45);
            due(x.count(1), 0);
            due(x.count(2), 3);
            due(x.night(), 3);
        }
    }
}
