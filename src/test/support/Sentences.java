import java.util.ArrayList;
import java.util.List;

/**
 * What the tests of boundaries share: the sentence of the document that is looked at, the answers that are due by
 * it, and calls that must change nothing. They extend it, as nothing can be imported from a class without a package.
 */
abstract class Sentences {
    static final int BEYOND = -1000001;
    static final int FULL = -1000002;
    static final int KIND = -1000003;
    static final int NONE = -1000004;
    static final int STATE = -1000005;
    static final int MISSING = -1000006;
    static final int SIZE = -1000007;
    static final int MIN = Integer.MIN_VALUE;
    static final int MAX = Integer.MAX_VALUE;
    /** So many numbers of a sheet are looked at by a trace; the sheets of traced objects have fewer. */
    private static final int TRACED_NUMBERS = 6;

    private static String words = "";
    private static int row = 0;
    private static int sentences = 0;
    private static int asked = 0;
    private static int wrong = 0;

    /** The calls by which an object comes to a state. */
    interface State {
        void on(PrimedPumps x);
    }

    /** One call, with its answer. */
    interface Act {
        long on(PrimedPumps x);
    }

    static void sentence(String ofTheDocument) {
        words = ofTheDocument;
        row = 0;
        sentences++;
    }

    static void due(long got, long want) {
        row++;
        asked++;
        if (got != want) {
            wrong++;
            System.out.println("\"" + words + "\", row " + row + ": answered " + got + ", due is " + want);
        }
    }

    static void end() {
        System.out.println(sentences + " sentences, " + asked + " answers asked, " + wrong + " wrong");
        if (wrong != 0) {
            System.exit(1);
        }
    }

    static PrimedPumps in(State state) {
        PrimedPumps x = new PrimedPumps();
        state.on(x);
        return x;
    }

    /** An object on which a text has been read that has no fault. */
    static PrimedPumps road(String text) {
        return in(x -> lay(x, text));
    }

    static void lay(PrimedPumps x, String text) {
        if (told(x, text) < 0) {
            throw new IllegalStateException(text);
        }
    }

    static int told(PrimedPumps x, String text) {
        x.wipe();
        feedAll(x, text);
        return x.text();
    }

    static void feedAll(PrimedPumps x, String text) {
        for (int i = 0; i < text.length(); i++) {
            x.feed(text.charAt(i), 1);
        }
    }

    /** Something of everything: a pump of each kind, another road kept, spots, sheets, a tape, findings counted. */
    static void busy(PrimedPumps x) {
        x.pump(4, 31, 17);
        x.hold(0, 0);
        x.hold(1, 0);
        x.seed(77);
        x.rule(0, 70);
        x.water(44);
        x.image();
        int[][] pumps = {{0, 12, 20}, {1, 0, 30}, {2, 12, 5}, {3, 40, 21}, {5, 0, 15}, {6, 12, 12}};
        for (int[] p : pumps) {
            x.pump(p[0], p[1], p[2]);
        }
        x.water(60);
        x.pour();
        x.night();
        x.water(30);
        x.go(12);
        x.run(1);
        x.run(3);
        x.rule(0, 45);
        x.rule(2, 1);
        x.run(6);
        x.rule(3, 7);
        x.change(4, 3, 5);
        x.seed(-5);
        x.hold(0, 4);
        x.hold(1, -1);
        x.hold(9, 6);
        rows(x);
        feedAll(x, "room 99;spills 3");
        x.of(99, 0);
        x.run(0);
        x.as(5, 0);
    }

    private static void rows(PrimedPumps x) {
        x.sheet(0, 8, 3);
        x.sheet(1, 8, 5);
        x.sheet(2, 32, 2);
        for (int i = 0; i < 3; i++) {
            x.write(0, i, 5 + i);
        }
        for (int i = 0; i < 5; i++) {
            x.write(1, i, 5 - i);
        }
        x.write(2, 0, 6);
    }

    /** As busy, and no place for a pump more. */
    static void crowded(PrimedPumps x) {
        busy(x);
        x.pump(0, 99, 60);
    }

    static void fresh(PrimedPumps x) {
        // Nothing has been called yet.
    }

    /** The call answers that finding, it alone is counted, and all else is as on a twin that was spared the call. */
    static void refused(State state, long finding, Act act) {
        PrimedPumps x = in(state);
        int[] before = statuses(x);
        due(act.on(x), finding);
        int[] after = statuses(x);
        for (int which = -1; which < 7; which++) {
            boolean counts = which == -1 || which == BEYOND - finding;
            due(after[which + 1], before[which + 1] + (counts ? 1 : 0));
        }
        alike(trace(x), trace(in(state)));
    }

    /** The call answers so, counts nothing, and changes nothing. */
    static void only(State state, long answer, Act act) {
        PrimedPumps x = in(state);
        int[] before = statuses(x);
        due(act.on(x), answer);
        int[] after = statuses(x);
        for (int i = 0; i < 8; i++) {
            due(after[i], before[i]);
        }
        alike(trace(x), trace(in(state)));
    }

    /** Two ways to one state, the counts of findings set aside. */
    static void same(State one, State other) {
        alike(trace(in(one)), trace(in(other)));
    }

    private static int[] statuses(PrimedPumps x) {
        int[] all = new int[8];
        for (int which = -1; which < 7; which++) {
            all[which + 1] = x.status(which);
        }
        return all;
    }

    private static void alike(List<String> one, List<String> other) {
        row++;
        asked++;
        for (int i = 0; i < one.size() && i < other.size(); i++) {
            if (!one.get(i).equals(other.get(i))) {
                wrong++;
                System.out.println("\"" + words + "\", row " + row + ": then " + one.get(i) + ", due is " + other.get(i));
                return;
            }
        }
        if (one.size() != other.size()) {
            wrong++;
            System.out.println("\"" + words + "\", row " + row + ": one is traced further than the other");
        }
    }

    /** All that can be seen of an object but status(); it isn't the same behind that. */
    private static List<String> trace(PrimedPumps x) {
        List<String> seen = new ArrayList<>();
        traceRoad(x, seen, "");
        traceSheets(x, seen);
        seen.add("text() " + x.text());
        traceRoad(x, seen, "behind text(): ");
        seen.add("undo() " + x.undo());
        traceRoad(x, seen, "behind undo(): ");
        seen.add("tear() " + x.tear());
        return seen;
    }

    private static void traceRoad(PrimedPumps x, List<String> seen, String when) {
        for (int what = 0; what < 7; what++) {
            seen.add(when + "now(" + what + ") " + x.now(what));
        }
        for (int what = 0; what < 8; what++) {
            seen.add(when + "count(" + what + ") " + x.count(what));
        }
        int pumps = x.count(0);
        for (int p = 0; p < pumps; p++) {
            for (int what = 0; what < 8; what++) {
                // KIND, MILE, GIVES and DROUGHT tell YIELD and NEED; count() has their sums.
                if (what != 6 && what != 7) {
                    seen.add(when + "of(" + p + ", " + what + ") " + x.of(p, what));
                }
            }
        }
        for (int spot = 0; spot < 10; spot++) {
            seen.add(when + "as(" + spot + ", 0) " + x.as(spot, 0));
        }
        int[] any = {999, 5, 0};
        for (int what = 0; what < 3; what++) {
            int was = x.rule(what, any[what]);
            x.rule(what, was);
            seen.add(when + "rule(" + what + ") " + was);
        }
    }

    /** A number is brought to the front of its sheet and becomes GIVES of PUMP 0 if it can. */
    private static void traceSheets(PrimedPumps x, List<String> seen) {
        for (int s = 0; s < 4; s++) {
            for (int i = 0; i < TRACED_NUMBERS; i++) {
                seen.add("copy from " + i + " of sheet " + s + " " + x.copy(s, i, s, 0, 1));
                seen.add("number " + i + " of sheet " + s + " comes " + x.load(s) + " as " + x.of(0, 2));
            }
        }
        for (int s = 1; s < 4; s++) {
            seen.add("bits of sheet " + s + " as those of 0: " + x.copy(s, 0, 0, 0, 0));
        }
    }
}
