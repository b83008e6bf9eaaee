/** Each sentence about plans (terms, promises 14 to 33) that names a boundary. */
public final class PlanBoundariesTest extends Sentences {
    private static final String EIGHT = "pump at 0 gives 60";
    private static final int PARTS_OF_EIGHT = 429981696;

    /** A call that takes w. */
    private interface WithW {
        long on(PrimedPumps x, int w);
    }

    public static void main(String[] args) {
        waters();
        plans();
        plansThatStandStill();
        row();
        most();
        order();
        ties();
        least();
        leastFor();
        keep();
        starts();
        ring();
        ringsThatClose();
        mistake();
        dear();
        spring();
        matters();
        room();
        bears();
        odds();
        mean();
        rust();
        seed();
        barrel();
        barrelNumbers();
        judge();
        end();
    }

    private static PrimedPumps roadAt(int mile, String text) {
        PrimedPumps x = road(text);
        x.go(mile);
        return x;
    }

    /** Eight pumps alike at home, with the greatest ROOM. */
    private static void eight(PrimedPumps x) {
        for (int p = 0; p < 8; p++) {
            lay(x, EIGHT);
        }
        x.rule(0, 999);
    }

    private static WithW[] allWithW() {
        return new WithW[] {PrimedPumps::row, PrimedPumps::most, (x, w) -> x.order(w, 0), PrimedPumps::starts,
            (x, w) -> x.mistake(w, 0), PrimedPumps::dear, PrimedPumps::spring, PrimedPumps::matters, PrimedPumps::room,
            PrimedPumps::bears, (x, w) -> x.odds(w, 0), PrimedPumps::mean, (x, w) -> x.judge(0, w)};
    }

    private static void standsUntil(State state, WithW act, int room) {
        for (int good : new int[] {0, room}) {
            PrimedPumps x = in(state);
            int before = x.status(0);
            act.on(x, good);
            due(x.status(0), before);
        }
        for (int bad : new int[] {-1, room + 1, MIN, MAX}) {
            refused(state, BEYOND, x -> act.on(x, bad));
        }
    }

    private static void waters() {
        sentence("14 to 33: with w (0 to ROOM) buckets. BEYOND.");
        for (WithW act : allWithW()) {
            standsUntil(Sentences::busy, act, 45);
            standsUntil(x -> {
                x.rule(0, 1);
                x.sheet(0, 8, 0);
            }, act, 1);
            standsUntil(x -> {
                x.rule(0, 999);
                x.pump(0, 0, 9);
                x.sheet(0, 8, 0);
            }, act, 999);
        }
        sentence("14 to 33: they tell, and change nothing");
        for (WithW act : allWithW()) {
            only(Sentences::busy, act.on(in(Sentences::busy), 20), x -> act.on(x, 20));
        }
        only(Sentences::busy, in(Sentences::busy).leastFor(20), x -> x.leastFor(20));
        only(told("spring at 0", 8, 0), 19, x -> x.barrel(2, 20));
        refused(Sentences::busy, NONE, PrimedPumps::least);
        sentence("14 to 33: w is what he begins with, not WATER");
        for (WithW act : allWithW()) {
            PrimedPumps x = in(Sentences::busy);
            long with45 = act.on(x, 20);
            x.water(0);
            due(act.on(x, 20), with45);
        }
    }

    // ---- what a plan is

    private static void plans() {
        sentence("a PLAN: from where THE CARRIER is; in the end he goes to MILE 0");
        due(roadAt(0, "room 40").row(10), 10);
        due(roadAt(4, "room 40").row(10), 10);
        due(roadAt(5, "room 40").row(10), 9);
        due(roadAt(99, "room 40").row(19), 0);
        due(roadAt(99, "room 40").row(20), 1);
        due(roadAt(99, "spills 0").row(20), 20);
        sentence("a PLAN: he runs it, if he can (WATER is NEED or more; else he goes on without)");
        due(road("pump at 10 gives 20").row(9), 18);
        due(road("pump at 10 gives 20").row(8), 4);
        due(road("pump at 10 gives 60;pump at 0 gives 60").row(10), 6);
        due(road("pump at 0 gives 60;spring at 0").row(19), 20);
        due(road("pump at 0 gives 60;spring at 0").row(20), 40);
        due(road("spring at 99").row(0), 0);
        due(road("spring at 4").row(0), 1);
        sentence("a PLAN: not TODAY");
        PrimedPumps x = road("pump at 0 gives 20;water 7");
        due(x.row(10), 23);
        x.run(0);
        due(x.row(10), 10);
        due(x.most(10), 10);
        x.night();
        due(x.row(10), 23);
        sentence("a PLAN: YIELD above 0");
        due(road("pump at 0 gives 9;drought 7").row(5), 6);
        due(road("pump at 0 gives 9;drought 9").row(5), 5);
        due(road("shared at 0 gives 1").order(5, 0), NONE);
        due(road("shared at 0 gives 1").starts(5), 0);
        sentence("a PLAN: unlike PUMPS: each runs once");
        due(road("spring at 0").most(0), 1);
        due(road("pump at 0 gives 9;pump at 0 gives 9").most(3), 15);
    }

    private static void plansThatStandStill() {
        sentence("In plans nothing FAILS");
        PrimedPumps x = road("pump at 0 gives 20 fails 11");
        due(x.row(7), 20);
        due(x.most(7), 20);
        due(x.least(), 7);
        due(x.count(6), 1);
        sentence("In plans HOURS stand still");
        x = road("morning at 99 gives 9;spills 0");
        x.rule(3, 8);
        due(x.row(10), 18);
        x.rule(3, 9);
        due(x.row(10), 16);
        x = road("faint at 99 gives 9;spills 0");
        x.rule(3, 11);
        due(x.row(10), 15);
        x.rule(3, 12);
        due(x.row(10), 10);
        x = road("spring at 0;spills 0");
        x.run(0);
        x.go(99);
        x.rule(3, 23);
        due(x.row(5), 5);
        due(x.most(5), 5);
        due(x.starts(5), 0);
        sentence("In plans ROOM holds");
        due(road("pump at 0 gives 9;room 16").row(10), 16);
        due(road("pump at 0 gives 9;room 15").row(10), 15);
        due(road("pump at 0 gives 60;pump at 0 gives 60;room 30").row(20), 30);
        due(road("pump at 10 gives 60;room 22").row(22), 20);
        due(road("pump at 10 gives 60;room 21").row(21), 17);
        // Just the NEED of the other is behind the first, and ROOM one less is too little.
        due(road("pump at 0 gives 30;pump at 0 gives 60;room 20").least(), 10);
        due(road("pump at 0 gives 30;pump at 0 gives 60;room 19").least(), NONE);
    }

    // ---- promises 14 to 16

    private static void row() {
        sentence("14: a PLAN of all PUMPS by numbers");
        due(new PrimedPumps().row(0), 0);
        due(new PrimedPumps().row(40), 40);
        due(in(PlanBoundariesTest::eight).row(20), 20 + 8 * 40);
        due(in(PlanBoundariesTest::eight).row(19), 19);
        due(in(PlanBoundariesTest::eight).row(999), 999);
        due(road("pump at 0 gives 60;pump at 0 gives 9").row(15), 21);
        due(road("pump at 0 gives 9;pump at 0 gives 60").row(15), 40);
        PrimedPumps x = in(PlanBoundariesTest::eight);
        x.change(7, 1, 10);
        due(x.row(20), 20 + 8 * 40 - 4);
        due(x.most(20), 20 + 8 * 40 - 4);
        sentence("14: whatever was asked before");
        x = road("pump at 0 gives 9;pump at 0 gives 60;room 999");
        due(x.row(20), 66);
        due(x.order(4, 0), 0);
        x.change(0, 2, 60);
        x.change(1, 2, 9);
        due(x.order(4, 0), 1);
        due(x.row(4), 10);
    }

    private static void most() {
        sentence("15: of any PUMPS, or none");
        due(new PrimedPumps().most(0), 0);
        due(new PrimedPumps().most(40), 40);
        due(road("pump at 99 gives 60").most(40), 40);
        due(in(PlanBoundariesTest::eight).most(20), 340);
        due(in(PlanBoundariesTest::eight).most(19), 19);
        due(in(PlanBoundariesTest::eight).most(679), 999);
        due(in(PlanBoundariesTest::eight).most(678), 998);
        due(road("spring at 0;room 1").most(0), 1);
        due(road("spring at 0;room 1").most(1), 1);
        sentence("15: in which he runs each of these");
        // Over the pump's mile he would spill none, as each way is cut, but he can't run it.
        PrimedPumps x = roadAt(8, "pump at 4 gives 60");
        due(x.row(10), 10);
        due(x.most(10), 9);
        due(x.row(20), 40);
        due(x.most(20), 40);
    }

    private static void order() {
        sentence("16: The i-th PUMP (0 to 7). BEYOND.");
        PrimedPumps x = in(PlanBoundariesTest::eight);
        for (int i = 0; i < 8; i++) {
            due(x.order(20, i), i);
        }
        for (int bad : new int[] {-1, 8, MIN, MAX}) {
            refused(Sentences::busy, BEYOND, y -> y.order(20, bad));
            refused(PlanBoundariesTest::eight, BEYOND, y -> y.order(20, bad));
        }
        sentence("16: NONE: it has not so many");
        refused(Sentences::fresh, NONE, y -> y.order(0, 0));
        refused(Sentences::fresh, NONE, y -> y.order(40, 7));
        State two = y -> lay(y, "spring at 0;spring at 0");
        due(in(two).order(0, 1), 1);
        refused(two, NONE, y -> y.order(0, 2));
        refused(two, NONE, y -> y.order(0, 7));
        refused(two, NONE, y -> y.order(40, 0));
        sentence("16: BEYOND is told before NONE");
        refused(Sentences::fresh, BEYOND, y -> y.order(0, 8));
        refused(Sentences::fresh, BEYOND, y -> y.order(41, 0));
        refused(Sentences::fresh, BEYOND, y -> y.order(-1, 7));
    }

    private static void orderIs(String text, int w, int... plan) {
        PrimedPumps x = road(text);
        for (int i = 0; i < 8; i++) {
            due(x.order(w, i), i < plan.length ? plan[i] : NONE);
        }
    }

    private static void ties() {
        sentence("16: of several the one with fewest PUMPS");
        orderIs("pump at 0 gives 9;pump at 0 gives 60", 20, 1);
        orderIs("pump at 0 gives 30;pump at 0 gives 60", 39, 0);
        orderIs("pump at 0 gives 30;pump at 0 gives 60", 40);
        orderIs("spring at 5", 3);
        orderIs("pump at 0 gives 1", 3);
        // 8 there, 22, 20 at the other: just its NEED, coming from the first.
        orderIs("pump at 10 gives 22;pump at 20 gives 60;room 99", 10, 0, 1);
        orderIs("pump at 20 gives 60;pump at 10 gives 22;room 99", 10, 1, 0);
        orderIs("pump at 10 gives 21;pump at 20 gives 60;room 99", 9, 0);
        sentence("16: then the one that has the least number first");
        orderIs("pump at 0 gives 60;pump at 0 gives 60", 20, 0);
        // 0 and 3 would do, and 2 and 1, and 2 and 3.
        orderIs("room 18;spills 0;pump at 6 gives 3;pump at 2 gives 13;pump at 0 gives 11;pump at 1 gives 18", 4, 0, 3);
        orderIs("room 8;spills 4;pump at 3 gives 3;pump at 5 gives 6;pump at 6 gives 8;pump at 3 gives 6", 3, 0, 3);
        sentence("16: then next, and so on");
        orderIs("room 9;spills 0;pump at 0 gives 9;spring at 0;pump at 0 gives 9", 2, 1, 0);
        // 0, 2, 3 would do, and 0, 3, 1, and 0, 3, 2.
        orderIs("room 9;spills 0;pump at 6 gives 3;pump at 6 gives 19;pump at 5 gives 5;pump at 9 gives 7", 1, 0, 2, 3);
    }

    // ---- promises 17 to 21

    private static void least() {
        sentence("17: The least w (0 to ROOM)");
        due(road("pump at 0 gives 60;room 21").least(), 20);
        due(road("pump at 0 gives 60;room 20").least(), 20);
        refused(x -> lay(x, "pump at 0 gives 60;room 19"), NONE, PrimedPumps::least);
        due(road("pump at 99 gives 60").least(), 39);
        due(road("pump at 99 gives 60;room 39").least(), 39);
        due(road("pump at 99 gives 60;room 38").least(), NONE);
        due(road("spring at 99").least(), 0);
        sentence("17: some PLAN of all PUMPS runs them all");
        due(new PrimedPumps().least(), 0);
        due(road("deep at 0 gives 20;pump at 0 gives 9").least(), 4);
        due(in(PlanBoundariesTest::eight).least(), 20);
        sentence("17: NONE: one ran TODAY, or has no YIELD");
        PrimedPumps x = road("spring at 0;spring at 0");
        due(x.least(), 0);
        x.run(1);
        due(x.least(), NONE);
        x.night();
        due(x.least(), 0);
        due(road("spring at 0;shared at 0 gives 1").least(), NONE);
        due(road("spring at 0;shared at 0 gives 2").least(), 0);
    }

    private static void leastFor() {
        sentence("18: most() is v (0 to 999) or more. BEYOND.");
        due(new PrimedPumps().leastFor(0), 0);
        due(road("room 999").leastFor(999), 999);
        due(road("room 999;spring at 0").leastFor(999), 998);
        for (int bad : new int[] {-1, 1000, MIN, MAX}) {
            refused(Sentences::busy, BEYOND, x -> x.leastFor(bad));
        }
        sentence("18: The least w (0 to ROOM). NONE.");
        due(new PrimedPumps().leastFor(40), 40);
        refused(Sentences::fresh, NONE, x -> x.leastFor(41));
        refused(x -> x.rule(0, 998), NONE, x -> x.leastFor(999));
        due(road("pump at 0 gives 60").leastFor(20), 20);
        due(road("pump at 0 gives 60").leastFor(19), 19);
        due(road("pump at 0 gives 60").leastFor(21), 20);
        due(road("pump at 0 gives 60").leastFor(40), 20);
        due(roadAt(5, "room 40").leastFor(39), 40);
        due(roadAt(5, "room 40").leastFor(40), NONE);
        due(roadAt(5, "room 40").leastFor(0), 0);
        due(roadAt(5, "room 40").leastFor(1), 2);
    }

    private static void keep() {
        sentence("19: The least w (0 to ROOM) with which most() is more than w");
        due(road("spring at 0;room 1").keep(), 0);
        due(road("spring at 4").keep(), 0);
        due(road("pump at 0 gives 60;room 21").keep(), 20);
        due(road("pump at 5 gives 5").keep(), 3);
        due(road("pump at 99 gives 60;room 999").keep(), 39);
        due(road("pump at 0 gives 60;pump at 0 gives 9").keep(), 3);
        // 1 spilt there, 2 poured in, 6 come, 5 at home.
        due(road("morning at 2 gives 3;shared at 1 gives 1;room 64;spills 2").keep(), 3);
        // From 22 on 6 are spilt and 18 wanted: what the way to the first pump costs counts in full.
        due(roadAt(22, "faint at 2 gives 49;room 96;spills 3").keep(), 24);
        // 99 spilt and 20 wanted; one pump makes 60 of that, three make 140.
        due(roadAt(99, "pump at 0 gives 60;room 999;spills 1").keep(), NONE);
        String three = "pump at 0 gives 60;pump at 0 gives 60;pump at 0 gives 60;spills 1;room ";
        due(roadAt(99, three + 999).keep(), 119);
        due(roadAt(99, three + 120).keep(), 119);
        due(roadAt(99, three + 119).keep(), NONE);
        sentence("19: NONE.");
        refused(Sentences::fresh, NONE, PrimedPumps::keep);
        refused(x -> lay(x, "pump at 0 gives 60;room 20"), NONE, PrimedPumps::keep);
        refused(x -> lay(x, "pump at 0 gives 60;room 19"), NONE, PrimedPumps::keep);
        // As much as before isn't more.
        refused(x -> lay(x, "pump at 5 gives 4"), NONE, PrimedPumps::keep);
        refused(x -> lay(x, "spring at 5"), NONE, PrimedPumps::keep);
        refused(x -> lay(x, "pump at 0 gives 1"), NONE, PrimedPumps::keep);
    }

    private static void starts() {
        sentence("20: PUMPS that can be run as the first of a PLAN with w buckets, as a set");
        due(new PrimedPumps().starts(40), 0);
        PrimedPumps x = road("pump at 10 gives 20;spring at 99;pump at 0 gives 60");
        due(x.starts(0), 2);
        due(x.starts(8), 2);
        due(x.starts(9), 3);
        due(x.starts(19), 3);
        due(x.starts(20), 7);
        x.go(10);
        due(x.starts(6), 2);
        due(x.starts(7), 3);
        x.water(7);
        x.run(0);
        due(x.starts(40), 6);
        x.night();
        due(x.starts(40), 7);
        due(in(PlanBoundariesTest::eight).starts(20), 255);
        due(in(PlanBoundariesTest::eight).starts(19), 0);
        due(road("pump at 0 gives 9;pump at 0 gives 10;drought 9").starts(40), 2);
    }

    private static void ring() {
        sentence("21: that of fewest (2 at least). NONE.");
        refused(Sentences::fresh, NONE, PrimedPumps::ring);
        refused(x -> lay(x, "spring at 0"), NONE, PrimedPumps::ring);
        refused(x -> lay(x, "pump at 0 gives 60"), NONE, PrimedPumps::ring);
        due(road("spring at 0;spring at 99").ring(), 3);
        sentence("21: of several the least");
        due(in(PlanBoundariesTest::eight).ring(), 3);
        due(road("pump at 0;pump at 50;pump at 50;pump at 0;spills 1").ring(), 6);
        due(road("pump at 0;pump at 50;pump at 99;pump at 50;pump at 0;spills 1").ring(), 10);
        sentence("21: PUMPS that he can run: not TODAY, YIELD above 0");
        PrimedPumps x = road("spring at 0;spring at 0;spring at 0");
        due(x.ring(), 3);
        x.run(0);
        due(x.ring(), 6);
        x.run(2);
        due(x.ring(), NONE);
        x.night();
        due(x.ring(), 3);
        due(road("spring at 0;shared at 0 gives 1").ring(), NONE);
        due(road("spring at 0;shared at 0 gives 2").ring(), 3);
    }

    private static void ringsThatClose() {
        sentence("21: coming back to that with its NEED or more");
        due(road("pump at 0;pump at 6;spills 1").ring(), 3);
        refused(x -> lay(x, "pump at 0;pump at 7;spills 1"), NONE, PrimedPumps::ring);
        due(road("deep at 0 gives 20;deep at 10 gives 20;spills 1").ring(), 3);
        due(road("deep at 0 gives 20;deep at 11 gives 20;spills 1").ring(), NONE);
        sentence("21: from one of them on");
        // From the spring on the pump's NEED is spilt on the way; from the pump on it goes.
        due(road("spring at 0;pump at 1 gives 3;spills 1").ring(), 3);
        due(road("pump at 1 gives 3;spring at 0;spills 1").ring(), 3);
        due(road("pump at 1 gives 1;spring at 0;spills 1").ring(), NONE);
        sentence("21: begun there with just the NEED of the first");
        PrimedPumps x = road("pump at 0;pump at 7;spills 1;water 40");
        due(x.ring(), NONE);
        x.go(7);
        due(x.ring(), NONE);
        x = road("pump at 0;pump at 6;spills 1");
        x.go(99);
        due(x.ring(), 3);
        sentence("21: ROOM holds in it");
        due(road("room 3;pump at 0;pump at 0").ring(), 3);
        due(road("room 2;pump at 0;pump at 0").ring(), NONE);
        due(road("room 9;pump at 0;pump at 6;spills 1").ring(), 3);
        due(road("room 8;pump at 0;pump at 6;spills 1").ring(), NONE);
    }

    // ---- promises 22 to 27

    private static void mistake() {
        sentence("22: if the i-th of its PUMPS is left out of it (the others as they can then)");
        PrimedPumps x = road("pump at 0 gives 30;pump at 0 gives 60;room 999");
        // 10, 30, 70; without the first the second can't; without the second 30.
        due(x.mistake(10, 0), 60);
        due(x.mistake(10, 1), 40);
        due(in(PlanBoundariesTest::eight).mistake(20, 7), 40);
        sentence("22: BEYOND: i (0 to 7)");
        for (int bad : new int[] {-1, 8, MIN, MAX}) {
            refused(Sentences::busy, BEYOND, y -> y.mistake(20, bad));
        }
        sentence("22: NONE: it has not so many");
        refused(Sentences::fresh, NONE, y -> y.mistake(0, 0));
        State one = y -> lay(y, "spring at 0");
        due(in(one).mistake(0, 0), 1);
        refused(one, NONE, y -> y.mistake(0, 1));
        refused(one, NONE, y -> y.mistake(40, 0));
        refused(one, NONE, y -> y.mistake(0, 7));
        sentence("22: BEYOND is told before NONE");
        refused(Sentences::fresh, BEYOND, y -> y.mistake(0, 8));
        refused(Sentences::fresh, BEYOND, y -> y.mistake(41, 0));
    }

    private static void dear() {
        sentence("23: The PUMP without which most() with w buckets is least");
        due(road("spring at 9").dear(0), 0);
        due(road("spring at 0;pump at 0 gives 60").dear(19), 0);
        due(road("spring at 0;pump at 0 gives 60").dear(20), 1);
        PrimedPumps x = in(PlanBoundariesTest::eight);
        due(x.dear(20), 0);
        due(x.dear(0), 0);
        x.change(7, 0, 2);
        due(x.dear(19), 7);
        x.change(7, 0, 0);
        x.change(7, 2, 3);
        due(x.dear(1), 7);
        sentence("23: NONE: there is none");
        refused(Sentences::fresh, NONE, y -> y.dear(0));
        refused(Sentences::fresh, NONE, y -> y.dear(40));
        sentence("23: BEYOND is told before NONE");
        refused(Sentences::fresh, BEYOND, y -> y.dear(41));
        refused(Sentences::fresh, BEYOND, y -> y.dear(-1));
    }

    private static void spring() {
        sentence("24: The MILE (0 to 99) at which a SPRING more would make most() greatest");
        due(new PrimedPumps().spring(0), 0);
        due(new PrimedPumps().spring(40), 0);
        // From 99 to 0 one is spilt; by way of a spring at 1 or further none, and one comes to it.
        PrimedPumps x = roadAt(99, "pump at 0 gives 60;spills 99;room 999");
        due(x.spring(19), 1);
        // Only where he is 19 become 20, and three pumps bring more than the way home spills.
        String three = "pump at 99 gives 60;pump at 99 gives 60;pump at 99 gives 60;spills 1;room 999";
        due(roadAt(99, three).spring(19), 99);
        due(roadAt(98, three).spring(20), 98);
        sentence("24: a SPRING gives 1, and needs 0");
        due(roadAt(99, three).spring(18), 0);
        due(roadAt(99, three).spring(20), 0);
        due(roadAt(99, "room 40").spring(0), 0);
        sentence("24: FULL.");
        due(in(Sentences::busy).spring(0) >= 0 ? 1 : 0, 1);
        refused(Sentences::crowded, FULL, y -> y.spring(0));
        refused(Sentences::crowded, FULL, y -> y.spring(45));
        sentence("24: BEYOND is told before FULL");
        refused(Sentences::crowded, BEYOND, y -> y.spring(46));
        refused(Sentences::crowded, BEYOND, y -> y.spring(-1));
    }

    private static void matters() {
        sentence("25: The greatest SPILLS (1 to 99) with which most() is less than with SPILLS 0");
        due(road("pump at 1 gives 9").matters(3), 1);
        due(road("pump at 2 gives 9").matters(3), 2);
        due(road("pump at 98 gives 30").matters(10), 98);
        due(road("pump at 99 gives 30").matters(10), 99);
        due(road("pump at 99 gives 30;spills 0").matters(10), 99);
        due(road("pump at 99 gives 30;spills 99").matters(10), 99);
        due(roadAt(99, "room 40").matters(1), 99);
        for (int mile = 1; mile <= 99; mile++) {
            due(roadAt(mile, "room 40").matters(1), mile);
        }
        sentence("25: NONE.");
        refused(Sentences::fresh, NONE, x -> x.matters(0));
        refused(Sentences::fresh, NONE, x -> x.matters(40));
        refused(x -> lay(x, "pump at 0 gives 60"), NONE, x -> x.matters(20));
        refused(x -> lay(x, "pump at 99 gives 30"), NONE, x -> x.matters(9));
        refused(x -> x.go(99), NONE, x -> x.matters(0));
    }

    private static void room() {
        sentence("26: The least ROOM (w, 1 at least, to 999)");
        due(new PrimedPumps().room(0), 1);
        due(new PrimedPumps().room(1), 1);
        due(new PrimedPumps().room(2), 2);
        due(new PrimedPumps().room(40), 40);
        due(road("room 999").room(999), 999);
        due(road("spring at 99").room(0), 1);
        due(roadAt(99, "spills 1").room(40), 40);
        sentence("26: with which most() with w buckets is as great as with 999");
        due(in(PlanBoundariesTest::eight).room(20), 340);
        due(in(PlanBoundariesTest::eight).room(678), 998);
        due(in(PlanBoundariesTest::eight).room(679), 999);
        due(in(PlanBoundariesTest::eight).room(680), 999);
        due(in(PlanBoundariesTest::eight).room(999), 999);
        due(road("pump at 0 gives 9;room 3").room(3), 9);
        due(road("pump at 0 gives 9;room 3").room(2), 2);
        due(road("pump at 10 gives 20;room 10").room(9), 20);
        PrimedPumps y = road("pump at 0 gives 9");
        for (int w = 0; w <= 40; w++) {
            due(y.room(w), w < 3 ? Math.max(1, w) : w + 6);
        }
        sentence("26: and ROOM stays");
        PrimedPumps x = road("pump at 0 gives 9;room 3");
        x.room(3);
        due(x.rule(0, 3), 3);
        due(x.most(3), 3);
    }

    private static void bears() {
        sentence("27: The greatest DROUGHT (0 to 9) with which most() is w or more");
        due(new PrimedPumps().bears(40), 9);
        due(roadAt(10, "pump at 10 gives 12").bears(5), 9);
        due(roadAt(10, "pump at 10 gives 11").bears(5), 8);
        due(roadAt(10, "pump at 10 gives 4").bears(5), 1);
        due(roadAt(10, "pump at 10 gives 3").bears(5), 0);
        due(roadAt(10, "pump at 10 gives 3;drought 9").bears(5), 0);
        due(roadAt(10, "room 40").bears(0), 9);
        due(roadAt(10, "pump at 10 gives 3").bears(38), 0);
        sentence("27: NONE: with none");
        refused(x -> {
            lay(x, "pump at 10 gives 2");
            x.go(10);
        }, NONE, x -> x.bears(5));
        refused(x -> x.go(5), NONE, x -> x.bears(1));
        due(roadAt(10, "pump at 10 gives 3").bears(39), NONE);
        sentence("27: and DROUGHT stays");
        PrimedPumps x = road("pump at 0 gives 20;drought 7");
        x.bears(7);
        due(x.rule(2, 7), 7);
        due(x.of(0, 6), 13);
    }

    // ---- promises 28 to 31

    private static void odds() {
        sentence("28: that he BRINGS v (0 to 999) or more. BEYOND.");
        PrimedPumps x = road("pump at 0 gives 30 fails 6;pump at 0 gives 60 fails 3");
        int[] values = {0, 1, 10, 11, 40, 41, 999};
        int[] parts = {144, 72, 72, 54, 54, 0, 0};
        for (int i = 0; i < values.length; i++) {
            due(x.odds(10, values[i]), parts[i]);
        }
        for (int bad : new int[] {-1, 1000, MIN, MAX}) {
            refused(Sentences::busy, BEYOND, y -> y.odds(20, bad));
        }
        due(road("room 999").odds(999, 999), 1);
        due(road("room 999").odds(998, 999), 0);
        sentence("28: in parts of 12 to the number of its PUMPS");
        due(new PrimedPumps().odds(5, 5), 1);
        due(new PrimedPumps().odds(5, 6), 0);
        x = in(PlanBoundariesTest::eight);
        due(x.odds(20, 340), PARTS_OF_EIGHT);
        due(x.odds(20, 341), 0);
        sentence("28: each PUMP FAILING by its twelfths (0 to 11)");
        due(road("pump at 0 gives 20").odds(7, 20), 12);
        due(road("pump at 0 gives 20 fails 1").odds(7, 20), 11);
        due(road("pump at 0 gives 20 fails 11").odds(7, 20), 1);
        for (int p = 0; p < 8; p++) {
            x.change(p, 3, 11);
        }
        due(x.odds(20, 340), 1);
        due(x.odds(20, 0), PARTS_OF_EIGHT);
        sentence("28: NEED lost; the others as they can then");
        // 30 less 10 are 20, just what the other needs; 29 less 10 one too little.
        x = road("deep at 0 gives 20 fails 11;pump at 0 gives 60;room 999");
        due(x.odds(30, 60), 144);
        due(x.odds(29, 60), 12);
        // 10 there, 30, 28 at home, 68; 8 if the other fails; nothing if the first does.
        x = road("pump at 10 gives 30 fails 6;pump at 0 gives 60 fails 3;room 99");
        due(x.odds(12, 68), 54);
        due(x.odds(12, 69), 0);
        due(x.odds(12, 8), 72);
        due(x.odds(12, 9), 54);
        due(x.mean(12), 54 * 68 + 18 * 8);
        // Failing there 22 are left, 20 at home: just the NEED of the other; with one less it can't.
        due(x.odds(34, 60), 108);
        due(x.odds(33, 60), 54);
    }

    private static void mean() {
        sentence("29: The sum over all of what he BRINGS, times parts");
        due(road("pump at 0 gives 30 fails 6;pump at 0 gives 60 fails 3").mean(10), 54 * 40 + 18 * 10);
        due(new PrimedPumps().mean(0), 0);
        due(new PrimedPumps().mean(40), 40);
        PrimedPumps x = in(PlanBoundariesTest::eight);
        due(x.mean(679), 999L * PARTS_OF_EIGHT);
        due(x.mean(999), 999);
        due(road("pump at 0 gives 20 fails 11").mean(7), 20);
        due(road("pump at 0 gives 20 fails 11").mean(8), 21 + 11);
        sentence("28, 29: no draw is made");
        x = road("pump at 0 gives 20 fails 11");
        x.odds(7, 1);
        x.mean(7);
        due(x.count(6), 1);
    }

    private static int drawn(int z) {
        return z * 1103515245 + 12345;
    }

    private static void rust() {
        sentence("30: n PUMPS (1 to 12; each the rest of a draw by how many there are). BEYOND.");
        for (int n : new int[] {1, 12}) {
            PrimedPumps x = in(PlanBoundariesTest::eight);
            int[] fails = new int[8];
            int z = 1;
            for (int i = 0; i < n; i++) {
                z = drawn(z);
                int p = (z >>> 8) % 8;
                z = drawn(z);
                fails[p] = (z >>> 8) % 12;
            }
            int any = 0;
            for (int f : fails) {
                any += f > 0 ? 1 : 0;
            }
            due(x.rust(n), any);
            due(x.count(6), z);
            for (int p = 0; p < 8; p++) {
                due(x.of(p, 3), fails[p]);
            }
        }
        for (int bad : new int[] {0, -1, 13, MIN, MAX}) {
            refused(Sentences::busy, BEYOND, x -> x.rust(bad));
        }
        sentence("30: STATE: there is none");
        refused(Sentences::fresh, STATE, x -> x.rust(1));
        refused(Sentences::fresh, STATE, x -> x.rust(12));
        sentence("30: BEYOND is told before STATE");
        refused(Sentences::fresh, BEYOND, x -> x.rust(0));
        refused(Sentences::fresh, BEYOND, x -> x.rust(13));
        sentence("30: how many have any then");
        rustOfOne();
    }

    private static void rustOfOne() {
        boolean noneSeen = false;
        int z = 1;
        PrimedPumps x = road("pump at 0 fails 11");
        for (int i = 0; i < 40; i++) {
            z = drawn(drawn(z));
            int fails = (z >>> 8) % 12;
            noneSeen |= fails == 0;
            due(x.rust(1), fails > 0 ? 1 : 0);
            due(x.of(0, 3), fails);
        }
        due(noneSeen ? 1 : 0, 1);
        PrimedPumps y = road("pump at 0 fails 1;pump at 0;pump at 0 fails 11");
        y.seed(MAX);
        int p = (drawn(MAX) >>> 8) % 3;
        int fails = (drawn(drawn(MAX)) >>> 8) % 12;
        due(y.rust(1), (p == 0 ? 0 : 1) + (p == 2 ? 0 : 1) + (fails > 0 ? 1 : 0));
    }

    private static void seed() {
        sentence("31: z becomes v: what it was (any int)");
        PrimedPumps x = new PrimedPumps();
        int was = 1;
        for (int z : new int[] {0, -1, MAX, MIN, BEYOND, SIZE, 1}) {
            due(x.seed(z), was);
            due(x.count(6), z);
            was = z;
        }
        due(x.status(-1), 0);
    }

    // ---- promises 32 and 33

    private static void tell(PrimedPumps x, int s, int bits, int... numbers) {
        x.sheet(s, bits, numbers.length);
        for (int i = 0; i < numbers.length; i++) {
            x.write(s, i, numbers[i]);
        }
    }

    private static State told(String text, int bits, int... numbers) {
        return x -> {
            lay(x, text);
            tell(x, 2, bits, numbers);
        };
    }

    private static void barrel() {
        sentence("32: The least w (0 to ROOM) with which a PLAN that a sheet tells BRINGS just v");
        PrimedPumps x = in(told("pump at 0 gives 60;room 30", 8, 0));
        due(x.barrel(2, 0), 0);
        due(x.barrel(2, 19), 19);
        due(x.barrel(2, 30), 20);
        due(in(told("room 40", 8)).barrel(2, 40), 40);
        due(in(told("room 999", 8)).barrel(2, 999), 999);
        due(in(told("spring at 0;room 40", 8, 0)).barrel(2, 40), 39);
        due(in(told("pump at 10 gives 9", 8, 0)).barrel(2, 0), 0);
        due(in(told("pump at 0 gives 30;pump at 0 gives 60;room 99", 8, 0, 1)).barrel(2, 70), 10);
        due(in(told("pump at 0 gives 30;pump at 0 gives 60;room 99", 8, 0, 1)).barrel(2, 30), NONE);
        due(in(told("pump at 0 gives 30;pump at 0 gives 60;room 99", 8, 1, 0)).barrel(2, 30), 10);
        due(in(told("pump at 0 gives 30;pump at 0 gives 60;room 99", 8, 1, 0)).barrel(2, 80), 20);
        sentence("32: NONE.");
        refused(told("pump at 0 gives 60;room 30", 8, 0), NONE, y -> y.barrel(2, 20));
        refused(told("pump at 0 gives 60;room 30", 8, 0), NONE, y -> y.barrel(2, 29));
        refused(told("pump at 0 gives 60;room 30", 8, 0), NONE, y -> y.barrel(2, 31));
        refused(told("room 40", 8), NONE, y -> y.barrel(2, 41));
        refused(told("spring at 0", 8, 0), NONE, y -> y.barrel(2, 0));
        sentence("32: BEYOND: no such sheet. MISSING.");
        for (int bad : new int[] {-1, 4, MIN, MAX}) {
            refused(Sentences::busy, BEYOND, y -> y.barrel(bad, 5));
        }
        refused(Sentences::busy, MISSING, y -> y.barrel(3, 5));
        refused(Sentences::fresh, MISSING, y -> y.barrel(0, 0));
        sentence("32: BEYOND: v (0 to 999)");
        for (int bad : new int[] {-1, 1000, MIN, MAX}) {
            refused(told("spring at 0", 8, 0), BEYOND, y -> y.barrel(2, bad));
        }
        sentence("32: MISSING, then STATE, then BEYOND of v, then NONE");
        refused(Sentences::busy, BEYOND, y -> y.barrel(4, 1000));
        refused(Sentences::busy, MISSING, y -> y.barrel(3, 1000));
        refused(told("spring at 0", 8, 1), STATE, y -> y.barrel(2, 1000));
        refused(told("spring at 0", 8, 1), STATE, y -> y.barrel(2, 0));
        refused(told("room 40", 8), BEYOND, y -> y.barrel(2, 1000));
    }

    private static void barrelNumbers() {
        sentence("32: STATE: a number is no PUMP");
        String three = "spring at 0;spring at 0;spring at 0";
        due(in(told(three, 32, 2, 0, 1)).barrel(2, 5), 2);
        for (int bad : new int[] {-1, 3, 8, 32, 33, 255, MIN, MAX}) {
            refused(told(three, 32, 2, 0, bad), STATE, y -> y.barrel(2, 5));
            refused(told(three, 32, bad), STATE, y -> y.barrel(2, 5));
        }
        due(in(told(three, 8, 256, 257)).barrel(2, 5), 3);
        due(in(told(three, 16, 65536, 65537)).barrel(2, 5), 3);
        refused(told(three, 16, 256), STATE, y -> y.barrel(2, 5));
        refused(told("room 40", 8, 0), STATE, y -> y.barrel(2, 5));
        sentence("32: STATE: or one comes twice");
        refused(told(three, 8, 0, 0), STATE, y -> y.barrel(2, 5));
        refused(told(three, 8, 2, 0, 1, 2), STATE, y -> y.barrel(2, 5));
        sentence("32: a PLAN of none, and of all");
        due(in(told(three, 8)).barrel(2, 5), 5);
        PrimedPumps x = in(PlanBoundariesTest::eight);
        tell(x, 2, 8, 7, 6, 5, 4, 3, 2, 1, 0);
        due(x.barrel(2, 340), 20);
        due(x.barrel(2, 19), 19);
        due(x.barrel(2, 20), NONE);
        due(x.barrel(2, 999), 679);
        tell(x, 2, 8, 7, 6, 5, 4, 3, 2, 1, 0, 0);
        due(x.barrel(2, 340), STATE);
        x.sheet(2, 8, 40);
        due(x.barrel(2, 340), STATE);
    }

    private static void judge() {
        String three = "pump at 10 gives 20;spring at 0;pump at 0 gives 60;room 99";
        sentence("33: in which each PUMP can be run when he comes to it: 0");
        due(in(told(three, 8)).judge(2, 0), 0);
        due(in(told(three, 8, 0)).judge(2, 9), 0);
        due(in(told(three, 8, 1, 0)).judge(2, 8), 0);
        // 20, less 2 are 18, and one: just too little for 60; with one more it goes.
        due(in(told(three, 8, 0, 1, 2)).judge(2, 10), 0);
        PrimedPumps x = in(PlanBoundariesTest::eight);
        tell(x, 2, 8, 7, 6, 5, 4, 3, 2, 1, 0);
        due(x.judge(2, 20), 0);
        sentence("33: else 1 and the place of the first that can't (or is no PUMP, or came)");
        due(in(told(three, 8, 0)).judge(2, 8), 1);
        due(in(told(three, 8, 1, 0)).judge(2, 7), 2);
        due(in(told(three, 8, 0, 1, 2)).judge(2, 9), 3);
        due(x.judge(2, 19), 1);
        tell(x, 2, 8, 7, 6, 5, 4, 3, 2, 1, 0, 5);
        due(x.judge(2, 20), 9);
        x.sheet(2, 8, 40);
        due(x.judge(2, 20), 2);
        for (int bad : new int[] {-1, 3, 8, 32, 33, 255, MIN, MAX}) {
            only(told(three, 32, 1, 0, bad), 3, y -> y.judge(2, 40));
            only(told(three, 32, bad, 0, 1), 1, y -> y.judge(2, 40));
        }
        only(told(three, 8, 1, 1), 2, y -> y.judge(2, 40));
        only(told("room 40", 8, 0), 1, y -> y.judge(2, 40));
        x = in(told(three, 8, 0, 1));
        x.run(1);
        due(x.judge(2, 40), 2);
        x.rule(2, 9);
        x.change(0, 2, 9);
        due(x.judge(2, 40), 1);
        sentence("33: BEYOND: no such sheet. MISSING. BEYOND: w.");
        for (int bad : new int[] {-1, 4, MIN, MAX}) {
            refused(Sentences::busy, BEYOND, y -> y.judge(bad, 5));
            refused(Sentences::busy, BEYOND, y -> y.judge(bad, -1));
        }
        refused(Sentences::busy, MISSING, y -> y.judge(3, 5));
        refused(Sentences::busy, MISSING, y -> y.judge(3, -1));
        refused(Sentences::busy, MISSING, y -> y.judge(3, 46));
        refused(told(three, 32, -1), BEYOND, y -> y.judge(2, 100));
    }
}
