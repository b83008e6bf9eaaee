/** Each sentence about texts, spots, sheets and images (term 3, promises 34 to 47) that names a boundary. */
public final class TextBoundariesTest extends Sentences {
    private static final String[] KINDS = {"pump", "deep", "spring", "tired", "shared", "morning", "faint"};

    public static void main(String[] args) {
        feed();
        feedOrder();
        wipe();
        words();
        otherLetters();
        numbers();
        blanks();
        items();
        pumpItems();
        ruleItems();
        ninthPump();
        endsTooEarly();
        firstFault();
        noFindings();
        longTexts();
        hold();
        as();
        sheet();
        sheetOrder();
        write();
        writtenBits();
        copy();
        copyRuns();
        load();
        image();
        undo();
        tear();
        count();
        status();
        end();
    }

    // ---- promises 34 and 35

    /** A tape of so many bytes, a text with blanks behind it. */
    private static State tape(int bytes) {
        return x -> {
            x.pump(0, 3, 9);
            feedAll(x, "room 77");
            for (int i = 7; i < bytes; i++) {
                x.feed(' ', 1);
            }
        };
    }

    private static void feed() {
        sentence("34: (n 1 to 4). BEYOND: n.");
        for (int n = 1; n <= 4; n++) {
            due(new PrimedPumps().feed(0x20202020, n), n);
        }
        for (int bad : new int[] {0, -1, 5, MIN, MAX}) {
            refused(tape(50), BEYOND, x -> x.feed(0x20202020, bad));
        }
        sentence("34: THE TAPE (bytes, at most 120). FULL.");
        for (int n = 1; n <= 4; n++) {
            int bytes = n;
            due(in(tape(120 - n)).feed(0x20202020, n), 120);
            refused(tape(121 - n), FULL, x -> x.feed(0x20202020, bytes));
            refused(tape(120), FULL, x -> x.feed(0x20202020, bytes));
        }
        sentence("34: BEYOND is told before FULL");
        for (int bad : new int[] {0, -1, 5, MIN, MAX}) {
            refused(tape(120), BEYOND, x -> x.feed(0x20202020, bad));
        }
    }

    private static void feedOrder() {
        sentence("34: the n lowest bytes of a number, the highest of these first");
        PrimedPumps x = new PrimedPumps();
        x.feed(0x726f6f6d, 4);
        x.feed(0x7a202039, 3);
        x.feed(0x3939, 2);
        x.feed(0xffffff38, 1);
        due(x.text(), -1 - 6);
        x.feed(0x726f6f6d, 4);
        x.feed(0x7a202039, 3);
        x.feed(0x3938, 2);
        due(x.text(), 1);
        due(x.rule(0, 40), 998);
        sentence("34: all bytes but those of TOKENS and blanks stand for nothing, 128 to 255 too");
        for (int b = 128; b < 256; b++) {
            x.feed(b, 1);
            x.feed(0x726f6f6d, 4);
            due(x.text(), -1);
            x.feed(b - 256, 1);
            due(x.text(), -1);
        }
    }

    private static void wipe() {
        sentence("35: THE TAPE is empty: how many it had");
        for (int bytes : new int[] {7, 8, 119, 120}) {
            PrimedPumps x = in(tape(bytes));
            due(x.wipe(), bytes);
            due(x.count(5), 0);
            due(x.wipe(), 0);
            due(x.feed(' ', 1), 1);
        }
        only(Sentences::fresh, 0, PrimedPumps::wipe);
        PrimedPumps x = in(tape(120));
        x.wipe();
        feedAll(x, "room");
        due(x.text(), -1 - 4);
    }

    // ---- promise 36

    /** A text with a fault leaves all as wiping the tape does, and is no finding. */
    private static void faulty(State state, String text, int fault) {
        PrimedPumps x = in(state);
        int before = x.status(-1);
        due(told(x, text), -1 - fault);
        due(x.status(-1), before);
        due(x.count(5), 0);
        same(y -> {
            state.on(y);
            told(y, text);
        }, y -> {
            state.on(y);
            y.wipe();
        });
    }

    private static void faulty(String text, int fault) {
        faulty(Sentences::busy, text, fault);
    }

    private static void fair(String text, int items) {
        PrimedPumps x = new PrimedPumps();
        due(told(x, text), items);
        due(x.count(5), 0);
        due(x.status(-1), 0);
    }

    private static void words() {
        sentence("36: WORDS (letters a to z)");
        faulty("`room 50", 0);
        faulty("{room 50", 0);
        faulty("Room 50", 0);
        faulty("ROOM 50", 0);
        faulty("roo` 50", 0);
        faulty("room` 50", 4);
        faulty("room{50", 4);
        faulty("room@50", 4);
        faulty("room[50", 4);
        sentence("36: TOKENS, each as long as can be");
        faulty("pumpat 3", 0);
        faulty("pump atx 3", 5);
        faulty("rooms 50", 0);
        faulty("roo m 50", 0);
        fair("room50;pump at3gives4fails5", 2);
        faulty("pump at 3gives4fails5at", 21);
        faulty("pump at 1 2", 10);
        sentence("36: another WORD");
        for (String word : new String[] {"at", "gives", "fails", "a", "z", "pum", "pumps", "well", "wate", "waters"}) {
            faulty(word + " 3", 0);
        }
        faulty("pump gives 3", 5);
        faulty("pump at pump", 8);
        faulty("pump at 3 at 3", 10);
        faulty("pump at 3 give 3", 10);
        faulty("pump at 3 fail 3", 10);
        faulty("pump at 3 room 3", 10);
    }

    private static void otherLetters() {
        sentence("36: another WORD, by any one letter");
        for (String word : new String[] {"room", "spills", "water", "drought"}) {
            otherLetters("", word, " 7");
        }
        for (String kind : KINDS) {
            otherLetters("", kind, " at 7");
        }
        otherLetters("pump ", "at", " 7");
        otherLetters("pump at 7 ", "gives", " 7");
        otherLetters("pump at 7 ", "fails", " 7");
        otherLetters("pump at 7 gives 7 ", "fails", " 7");
    }

    private static void otherLetters(String before, String word, String behind) {
        due(told(new PrimedPumps(), before + word + behind), 1);
        for (int i = 0; i < word.length(); i++) {
            String other = word.substring(0, i) + "q" + word.substring(i + 1);
            due(told(new PrimedPumps(), before + other + behind), -1 - before.length());
            String shorter = word.substring(0, i) + word.substring(i + 1);
            due(told(new PrimedPumps(), before + shorter + behind), -1 - before.length());
            String longer = word.substring(0, i) + "q" + word.substring(i);
            due(told(new PrimedPumps(), before + longer + behind), -1 - before.length());
        }
        due(told(new PrimedPumps(), before + word + "q" + behind), -1 - before.length());
    }

    private static void numbers() {
        sentence("36: NUMBERS (digits, 999 at most)");
        fair("room 999", 1);
        faulty("room 1000", 5);
        faulty("room 9990", 5);
        faulty("room 4294967297", 5);
        faulty("room 18446744073709551657", 5);
        faulty("room /50", 5);
        faulty("room :50", 5);
        faulty("room 50/", 7);
        faulty("room 50:", 7);
        faulty("room -50", 5);
        faulty("room +50", 5);
        faulty("room 50 0", 8);
        faulty("room 50.0", 7);
        faulty("50", 0);
        fair("room 000000000000000000000000000000000000000000000000000000050", 1);
        sentence("36: a NUMBER that isn't there");
        faulty("room ;", 5);
        faulty("room spills", 5);
        faulty("pump at ;", 8);
        faulty("pump at 3 gives ;", 16);
        faulty("pump at 3 gives fails 3", 16);
        faulty("pump at 3 fails gives", 16);
    }

    private static void blanks() {
        sentence("36: blanks may stand between");
        fair("room 50", 1);
        fair("   room   50   ", 1);
        fair("room50", 1);
        fair("room 50;spills 3", 2);
        fair(" room 50 ; spills 3 ", 2);
        fair("room50;spills3", 2);
        sentence("36: a byte that begins no TOKEN");
        for (int b = 0; b < 256; b++) {
            boolean letter = b >= 'a' && b <= 'z';
            boolean digit = b >= '0' && b <= '9';
            PrimedPumps x = new PrimedPumps();
            x.feed(b, 1);
            feedAll(x, " room 50");
            due(x.text(), b == ' ' ? 1 : -1);
            feedAll(x, "room 5");
            x.feed(b, 1);
            due(x.text(), b == ' ' || digit ? 1 : b == ';' ? -1 - 7 : -1 - 6);
            feedAll(x, "room ");
            x.feed(b, 1);
            feedAll(x, "50");
            due(x.text(), b == ' ' || digit ? 1 : -1 - 5);
            feedAll(x, "room");
            x.feed(b, 1);
            feedAll(x, "50");
            due(x.text(), b == ' ' || digit ? 1 : letter ? -1 : -1 - 4);
        }
    }

    private static void items() {
        sentence("36: TEXT: ITEM { ; ITEM }: how many ITEMS");
        fair("room 50", 1);
        fair("room 50;room 50;room 50", 3);
        faulty("", 0);
        faulty(";", 0);
        faulty(";room 50", 0);
        faulty("room 50;", 8);
        faulty("room 50;;room 50", 8);
        faulty("room 50 room 50", 8);
        faulty("room 50,room 50", 7);
        faulty("room 50;50", 8);
        sentence("36: all that it tells is so, item by item");
        PrimedPumps x = in(Sentences::busy);
        due(told(x, "water 0;room 1;water 1;room 999;water 999;spills 99;spills 1;drought 9;pump at 99"), 9);
        due(x.rule(0, 999), 999);
        due(x.rule(1, 1), 1);
        due(x.rule(2, 9), 9);
        due(x.now(1), 999);
        due(x.count(0), 8);
        due(x.of(7, 1), 99);
        sentence("36: it is neither SPILT nor RUN OFF, and no HOUR goes");
        due(x.now(5), 2);
        due(x.now(6), 3);
        due(x.now(3), 7);
        due(x.now(0), 12);
    }

    private static void told(String text, int kind, int mile, int gives, int fails) {
        PrimedPumps x = new PrimedPumps();
        due(told(x, text), 1);
        int[] traits = {kind, mile, gives, fails, 0, 0};
        for (int what = 0; what < traits.length; what++) {
            due(x.of(0, what), traits[what]);
        }
    }

    private static void pumpItems() {
        sentence("36: pump, deep, spring, tired, shared, morning or faint");
        for (int kind = 0; kind < KINDS.length; kind++) {
            told(KINDS[kind] + " at 7", kind, 7, 9, 0);
        }
        sentence("36: at, a NUMBER (0 to 99)");
        told("pump at 0", 0, 0, 9, 0);
        told("pump at 99", 0, 99, 9, 0);
        faulty("pump at 100", 8);
        faulty("pump at 999", 8);
        faulty("pump at 1000", 8);
        faulty("pump 3", 5);
        sentence("36: perhaps gives and a NUMBER (1 to 60; 9 without)");
        told("deep at 7 gives 1", 1, 7, 1, 0);
        told("deep at 7 gives 60", 1, 7, 60, 0);
        told("deep at 7 fails 2", 1, 7, 9, 2);
        faulty("deep at 7 gives 0", 16);
        faulty("deep at 7 gives 61", 16);
        faulty("deep at 7 gives 1000", 16);
        faulty("deep at 7 gives 3 gives 3", 18);
        sentence("36: perhaps fails and a NUMBER (0 to 11)");
        told("deep at 7 fails 0", 1, 7, 9, 0);
        told("deep at 7 gives 3 fails 11", 1, 7, 3, 11);
        faulty("deep at 7 fails 12", 16);
        faulty("deep at 7 gives 3 fails 12", 24);
        faulty("deep at 7 fails 3 fails 3", 18);
        faulty("deep at 7 fails 3 gives 3", 18);
    }

    private static void ruleItems() {
        State wet = x -> {
            x.pump(0, 3, 9);
            x.water(17);
        };
        sentence("36: room and a NUMBER (1 to 999; WATER not above it)");
        fair("room 1", 1);
        fair("room 999", 1);
        faulty(Sentences::fresh, "room 0", 5);
        faulty("room 1000", 5);
        due(in(x -> {
            wet.on(x);
            lay(x, "room 17");
        }).rule(0, 17), 17);
        faulty(wet, "room 16", 5);
        faulty(wet, "room 1", 5);
        faulty(wet, "water 18;room 17", 14);
        faulty(wet, "water 16;room 15", 14);
        sentence("36: spills and a NUMBER (0 to 99)");
        due(road("spills 0").rule(1, 5), 0);
        due(road("spills 99").rule(1, 5), 99);
        faulty("spills 100", 7);
        sentence("36: water and a NUMBER (0 to ROOM): WATER");
        due(road("water 0").now(1), 0);
        due(road("water 40").now(1), 40);
        due(road("room 999;water 999").now(1), 999);
        faulty(Sentences::fresh, "water 41", 6);
        faulty(wet, "room 30;water 31", 14);
        faulty("water 46", 6);
        sentence("36: drought and a NUMBER (0 to 9)");
        due(road("drought 9").rule(2, 0), 9);
        due(road("drought 9;drought 0").rule(2, 0), 0);
        faulty("drought 10", 8);
    }

    private static void ninthPump() {
        sentence("36: the WORD of a 9th PUMP: its own");
        for (String kind : KINDS) {
            faulty(Sentences::crowded, kind + " at 3", 0);
            faulty(Sentences::crowded, "room 50;" + kind + " at 3", 8);
        }
        faulty(Sentences::busy, "pump at 3;  pump at 4", 12);
        faulty(Sentences::crowded, "pump", 0);
        faulty(Sentences::crowded, "pump at 100 gives 0", 0);
        faulty(Sentences::crowded, "pumps at 3", 0);
        PrimedPumps x = new PrimedPumps();
        due(told(x, "pump at0;pump at0;pump at0;pump at0;pump at0;pump at0;pump at0;pump at0"), 8);
        due(x.count(0), 8);
        due(told(x, "room 50"), 1);
        faulty(Sentences::fresh, "pump at0;pump at0;pump at0;pump at0;pump at0;pump at0;pump at0;pump at0;deep at0", 72);
    }

    private static void endsTooEarly() {
        sentence("36: or how many bytes there are if it ends too early");
        String[] early = {"", "pump", "pump at", "pump at 3 gives", "pump at 3 fails", "pump at 3 gives 3 fails", "room",
            "spills", "water", "drought", "room 50;", "room 50;pump"};
        for (String text : early) {
            faulty(text, text.length());
            faulty(text + " ", text.length() + 1);
            faulty(text + "   ", text.length() + 3);
        }
        StringBuilder full = new StringBuilder("room 50;");
        while (full.length() < 120) {
            full.append(' ');
        }
        due(told(new PrimedPumps(), full.toString()), -121);
        full.setCharAt(119, ';');
        due(told(new PrimedPumps(), full.toString()), -120);
        full.setCharAt(119, 'z');
        due(told(new PrimedPumps(), full.toString()), -120);
        due(told(new PrimedPumps(), full.substring(0, 116) + "room"), -121);
        due(told(new PrimedPumps(), full.substring(0, 115) + "room5"), 2);
    }

    private static void firstFault() {
        sentence("36: the first byte of the first TOKEN that can't stand there");
        faulty("room 1000;spills 100", 5);
        faulty("pump at 100 gives 61", 8);
        faulty("room 50;spills 100;#", 15);
        faulty("# room 1000", 0);
        faulty("water 46;room", 6);
        faulty("room 50 # pump", 8);
        faulty("   rooms   50", 3);
        faulty("room      1000", 10);
    }

    private static void noFindings() {
        sentence("36: nothing changes but that THE TAPE is empty; no finding");
        faulty("room 60;water 60;spills 0;drought 9;faint at 9 fails 3;", 55);
        PrimedPumps x = new PrimedPumps();
        x.text();
        due(told(x, "zzz"), -1);
        for (int which = -1; which < 7; which++) {
            due(x.status(which), 0);
        }
        due(x.text(), -1);
        sentence("36: THE TAPE is a TEXT, and empty then");
        due(told(x, "room 50"), 1);
        due(x.count(5), 0);
        due(x.text(), -1);
        sentence("36: a text leaves image and sheets as they are");
        x = in(Sentences::busy);
        x.wipe();
        told(x, "room 50");
        due(x.undo(), 1);
        due(x.rule(0, 70), 70);
        due(x.load(0), 1);
    }

    private static void longTexts() {
        sentence("36: ITEMS as many as 120 bytes hold");
        StringBuilder text = new StringBuilder("room7");
        for (int i = 1; i < 20; i++) {
            text.append(";room").append(i % 10 == 0 ? 7 : i % 10);
        }
        due(text.length(), 119);
        PrimedPumps x = new PrimedPumps();
        due(told(x, text.toString()), 20);
        due(x.rule(0, 40), 9);
        due(told(x, text + "9"), 20);
        due(x.rule(0, 40), 99);
        due(told(x, text + ";"), -121);
        due(told(x, text + "x"), -120);
    }

    // ---- promises 37 and 38

    private static void hold() {
        sentence("37: SPOTS 0 to 9 hold a PUMP, or nothing (-1)");
        PrimedPumps x = in(Sentences::busy);
        for (int spot : new int[] {0, 9}) {
            due(x.hold(spot, 0), 1);
            due(x.as(spot, 4), 0);
            due(x.hold(spot, 6), 1);
            due(x.as(spot, 6), 6);
            due(x.hold(spot, -1), 1);
            due(x.as(spot, 0), MISSING);
            due(x.hold(spot, -1), 1);
        }
        sentence("37: BEYOND.");
        for (int bad : new int[] {-1, 10, MIN, MAX}) {
            refused(Sentences::busy, BEYOND, y -> y.hold(bad, 0));
            refused(Sentences::busy, BEYOND, y -> y.hold(bad, -1));
        }
        for (int bad : new int[] {-2, 7, 8, MIN, MAX}) {
            refused(Sentences::busy, BEYOND, y -> y.hold(0, bad));
        }
        refused(Sentences::fresh, BEYOND, y -> y.hold(0, 0));
        due(new PrimedPumps().hold(0, -1), 1);
        sentence("37: several hold the same PUMP");
        for (int spot = 0; spot < 10; spot++) {
            due(x.hold(spot, 2), 1);
        }
        due(x.count(7), 10);
    }

    private static void as() {
        sentence("38: as one of a kind (0 to 6). BEYOND.");
        for (int bad : new int[] {-1, 7, MIN, MAX}) {
            refused(Sentences::busy, BEYOND, x -> x.as(0, bad));
        }
        for (int bad : new int[] {-1, 10, MIN, MAX}) {
            refused(Sentences::busy, BEYOND, x -> x.as(bad, 0));
        }
        sentence("38: MISSING: it holds nothing");
        refused(Sentences::busy, MISSING, x -> x.as(1, 0));
        refused(Sentences::fresh, MISSING, x -> x.as(0, 0));
        refused(Sentences::fresh, MISSING, x -> x.as(9, 6));
        sentence("38: KIND: it isn't of that kind, nor of one under it");
        String[] above = {"0", "01", "02", "03", "014", "05", "036"};
        for (int kind = 0; kind < 7; kind++) {
            for (int asked = 0; asked < 7; asked++) {
                int held = kind;
                int wanted = asked;
                State state = x -> {
                    x.pump(0, 0, 9);
                    x.pump(held, 0, 9);
                    x.hold(3, 1);
                };
                if (above[kind].indexOf('0' + asked) >= 0) {
                    only(state, 1, x -> x.as(3, wanted));
                } else {
                    refused(state, KIND, x -> x.as(3, wanted));
                }
            }
        }
        sentence("38: BEYOND is told before MISSING");
        refused(Sentences::busy, BEYOND, x -> x.as(1, 7));
        refused(Sentences::fresh, BEYOND, x -> x.as(10, 0));
        sentence("38: the KIND is the one that it has now");
        PrimedPumps x = in(Sentences::busy);
        due(x.as(0, 3), 4);
        x.change(4, 0, 4);
        due(x.as(0, 3), KIND);
        due(x.as(0, 1), 4);
    }

    // ---- promises 39 and 40

    private static void sheet() {
        sentence("39: SHEETS 0 to 3. BEYOND: no such sheet");
        for (int s = 0; s < 4; s++) {
            due(new PrimedPumps().sheet(s, 8, 3), 3);
        }
        for (int bad : new int[] {-1, 4, MIN, MAX}) {
            refused(Sentences::busy, BEYOND, x -> x.sheet(bad, 8, 3));
        }
        sentence("39: of 8, 16 or 32 bits; BEYOND: other bits");
        for (int bits : new int[] {8, 16, 32}) {
            due(new PrimedPumps().sheet(0, bits, 3), 3);
        }
        for (int bad : new int[] {-1, 1, 7, 9, 15, 17, 24, 31, 33, 64, -8, MIN, MAX}) {
            refused(Sentences::busy, BEYOND, x -> x.sheet(0, bad, 3));
        }
        sentence("39: rows of at most 40 numbers. BEYOND: n is above 40");
        for (int bits : new int[] {8, 16, 32}) {
            due(new PrimedPumps().sheet(3, bits, 0), 0);
            due(new PrimedPumps().sheet(3, bits, 40), 40);
            for (int bad : new int[] {41, MAX}) {
                refused(Sentences::busy, BEYOND, x -> x.sheet(0, bits, bad));
            }
        }
        refused(Sentences::busy, BEYOND, x -> x.sheet(0, 0, 41));
        sentence("39: SIZE: n is below 0 (also with bits 0)");
        for (int bits : new int[] {0, 8, 16, 32}) {
            refused(Sentences::busy, SIZE, x -> x.sheet(0, bits, -1));
            refused(Sentences::busy, SIZE, x -> x.sheet(3, bits, MIN));
        }
    }

    private static void sheetOrder() {
        sentence("39: BEYOND of the sheet and of bits is told before SIZE");
        refused(Sentences::busy, BEYOND, x -> x.sheet(4, 8, -1));
        refused(Sentences::busy, BEYOND, x -> x.sheet(-1, 0, -1));
        refused(Sentences::busy, BEYOND, x -> x.sheet(0, 9, -1));
        sentence("39: bits 0: it is MISSING: n (0 if it is MISSING)");
        PrimedPumps x = in(Sentences::busy);
        due(x.sheet(0, 0, 0), 0);
        due(x.load(0), MISSING);
        due(x.sheet(1, 0, 40), 0);
        due(x.load(1), MISSING);
        due(x.sheet(3, 0, 7), 0);
        due(x.load(3), MISSING);
        sentence("39: a sheet of none isn't MISSING");
        due(x.sheet(3, 8, 0), 0);
        due(x.load(3), 0);
        due(x.write(3, 0, 1), BEYOND);
        sentence("39: n numbers, all 0");
        x = in(Sentences::busy);
        due(x.load(1), 5);
        due(x.sheet(1, 8, 5), 5);
        due(x.load(1), 0);
        x.write(1, 0, 7);
        due(x.load(1), 1);
        due(x.sheet(1, 8, 2), 2);
        due(x.sheet(1, 8, 40), 40);
        for (int i = 0; i < 40; i++) {
            due(x.copy(1, i, 1, 0, 1), 1);
            due(x.load(1), 0);
        }
        sentence("39: the other sheets stay");
        due(x.load(0), 3);
        due(x.of(2, 2), 7);
    }

    private static void write() {
        sentence("40: BEYOND: no such sheet");
        for (int bad : new int[] {-1, 4, MIN, MAX}) {
            refused(Sentences::busy, BEYOND, x -> x.write(bad, 0, 9));
        }
        sentence("40: MISSING.");
        refused(Sentences::busy, MISSING, x -> x.write(3, 0, 9));
        refused(Sentences::fresh, MISSING, x -> x.write(0, 0, 9));
        sentence("40: BEYOND: no such number");
        for (int bad : new int[] {-1, 3, 39, 40, MIN, MAX}) {
            refused(Sentences::busy, BEYOND, x -> x.write(0, bad, 9));
        }
        State none = x -> {
            busy(x);
            x.sheet(3, 16, 0);
        };
        refused(none, BEYOND, x -> x.write(3, 0, 9));
        State all = x -> {
            x.pump(0, 0, 9);
            x.sheet(3, 16, 40);
        };
        refused(all, BEYOND, x -> x.write(3, 40, 9));
        PrimedPumps x = in(all);
        due(x.write(3, 39, 9), 1);
        due(x.copy(3, 39, 3, 0, 1), 1);
        due(x.load(3), 1);
        due(x.of(0, 2), 9);
        due(in(Sentences::busy).write(0, 2, 9), 1);
        sentence("40: MISSING is told before BEYOND of the number");
        refused(Sentences::busy, MISSING, y -> y.write(3, -1, 9));
        refused(Sentences::busy, MISSING, y -> y.write(3, 40, 9));
    }

    /** What a number written as v is when it comes as GIVES; 0: it isn't 1 to 60. */
    private static void comesAs(int bits, int v, int gives) {
        PrimedPumps x = road("pump at 0 gives 33");
        x.sheet(0, bits, 1);
        due(x.write(0, 0, v), 1);
        due(x.load(0), gives == 0 ? 0 : 1);
        due(x.of(0, 2), gives == 0 ? 33 : gives);
    }

    private static void writtenBits() {
        sentence("40: v (its lowest bits)");
        for (int bits : new int[] {8, 16, 32}) {
            comesAs(bits, 1, 1);
            comesAs(bits, 60, 60);
            comesAs(bits, 0, 0);
            comesAs(bits, 61, 0);
            comesAs(bits, -1, 0);
            comesAs(bits, 127, 0);
            comesAs(bits, 128, 0);
            comesAs(bits, 255, 0);
            comesAs(bits, MAX, 0);
            comesAs(bits, MIN, 0);
            comesAs(bits, 256 + 5, bits == 8 ? 5 : 0);
            comesAs(bits, -256 + 5, bits == 8 ? 5 : 0);
            comesAs(bits, 65536 + 6, bits == 32 ? 0 : 6);
            comesAs(bits, -65536 + 6, bits == 32 ? 0 : 6);
            comesAs(bits, MIN + 7, bits == 32 ? 0 : 7);
        }
    }

    // ---- promises 41 and 42

    private static void copy() {
        sentence("41: BEYOND: no such sheet (either)");
        for (int bad : new int[] {-1, 4, MIN, MAX}) {
            refused(Sentences::busy, BEYOND, x -> x.copy(bad, 0, 0, 0, 1));
            refused(Sentences::busy, BEYOND, x -> x.copy(0, 0, bad, 0, 1));
        }
        sentence("41: MISSING: one is");
        refused(Sentences::busy, MISSING, x -> x.copy(3, 0, 0, 0, 1));
        refused(Sentences::busy, MISSING, x -> x.copy(0, 0, 3, 0, 1));
        refused(Sentences::busy, MISSING, x -> x.copy(3, 0, 3, 0, 0));
        sentence("41: KIND: they are not of as many bits");
        refused(Sentences::busy, KIND, x -> x.copy(0, 0, 2, 0, 1));
        refused(Sentences::busy, KIND, x -> x.copy(2, 0, 1, 0, 1));
        refused(Sentences::busy, KIND, x -> x.copy(2, 0, 1, 0, 0));
        sentence("41: BEYOND: one has not so many");
        int[][] tooMany = {{0, 0, 4}, {1, 0, 3}, {3, 0, 1}, {4, 0, 0}, {0, 3, 3}, {0, 5, 1}, {0, 6, 0}, {MAX, 0, 1},
            {0, MAX, 1}, {0, 0, MAX}, {1, 1, MAX}, {MAX, MAX, MAX}};
        for (int[] bad : tooMany) {
            refused(Sentences::busy, BEYOND, x -> x.copy(0, bad[0], 1, bad[1], bad[2]));
        }
        sentence("41: or from, to or n is below 0");
        int[][] below = {{-1, 0, 1}, {0, -1, 1}, {0, 0, -1}, {-1, 0, 0}, {0, -1, 0}, {3, 5, -1}, {MIN, 0, 1}, {0, MIN, 1},
            {0, 0, MIN}, {-1, -1, 2}};
        for (int[] bad : below) {
            refused(Sentences::busy, BEYOND, x -> x.copy(0, bad[0], 1, bad[1], bad[2]));
        }
        sentence("41: BEYOND of a sheet, then MISSING, then KIND, then BEYOND of numbers");
        refused(Sentences::busy, BEYOND, x -> x.copy(3, 0, 4, 0, 1));
        refused(Sentences::busy, BEYOND, x -> x.copy(4, 0, 3, 0, 1));
        refused(Sentences::busy, MISSING, x -> x.copy(3, -1, 2, 0, 1));
        refused(Sentences::busy, MISSING, x -> x.copy(2, 0, 3, 0, -1));
        refused(Sentences::busy, KIND, x -> x.copy(0, -1, 2, 0, 1));
        refused(Sentences::busy, KIND, x -> x.copy(0, 0, 2, 0, 99));
    }

    private static void loads(PrimedPumps x, int s, int... gives) {
        due(x.load(s), gives.length);
        for (int p = 0; p < gives.length; p++) {
            due(x.of(p, 2), gives[p]);
        }
    }

    private static void copyRuns() {
        sentence("41: n numbers of a sheet from one on come to another one from one on: n");
        PrimedPumps x = in(Sentences::busy);
        due(x.copy(0, 0, 1, 2, 3), 3);
        loads(x, 1, 5, 4, 5, 6, 7);
        loads(x, 0, 5, 6, 7);
        due(x.copy(0, 2, 1, 4, 1), 1);
        loads(x, 1, 5, 4, 5, 6, 7);
        sentence("41: none, also from behind the last");
        only(Sentences::busy, 0, y -> y.copy(0, 0, 1, 0, 0));
        only(Sentences::busy, 0, y -> y.copy(0, 3, 1, 5, 0));
        sentence("41: (as they all were)");
        x = in(Sentences::busy);
        due(x.copy(1, 0, 1, 1, 4), 4);
        loads(x, 1, 5, 5, 4, 3, 2);
        x = in(Sentences::busy);
        due(x.copy(1, 1, 1, 0, 4), 4);
        loads(x, 1, 4, 3, 2, 1, 1);
        only(Sentences::busy, 5, y -> y.copy(1, 0, 1, 0, 5));
        sentence("41: all 40");
        x = road("pump at 0");
        x.sheet(0, 16, 40);
        x.sheet(1, 16, 40);
        x.write(0, 39, 44);
        due(x.copy(0, 0, 1, 0, 40), 40);
        due(x.copy(0, 0, 1, 0, 41), BEYOND);
        due(x.copy(1, 39, 1, 0, 1), 1);
        loads(x, 1, 44);
    }

    private static State sheetOf(String text, int... numbers) {
        return x -> {
            lay(x, text);
            x.sheet(1, 32, numbers.length);
            for (int i = 0; i < numbers.length; i++) {
                x.write(1, i, numbers[i]);
            }
        };
    }

    private static void load() {
        String two = "pump at 0 gives 33;spring at 0 gives 33";
        sentence("42: It ends at the first that isn't 1 to 60");
        loads(in(sheetOf(two, 1, 60)), 1, 1, 60);
        for (int bad : new int[] {0, 61, -1, 256 + 5, MIN, MAX}) {
            PrimedPumps x = in(sheetOf(two, 5, bad));
            loads(x, 1, 5);
            due(x.of(1, 2), 33);
            only(sheetOf(two, bad, 5), 0, y -> y.load(1));
        }
        sentence("42: or for which there is no PUMP");
        loads(in(sheetOf(two, 5, 6, 7)), 1, 5, 6);
        only(sheetOf("room 40", 5, 6), 0, y -> y.load(1));
        PrimedPumps x = in(Sentences::crowded);
        x.sheet(3, 8, 40);
        for (int i = 0; i < 40; i++) {
            x.write(3, i, i + 1);
        }
        loads(x, 3, 1, 2, 3, 4, 5, 6, 7, 8);
        sentence("42: how many came");
        x = in(sheetOf(two, 5));
        loads(x, 1, 5);
        due(x.of(1, 2), 33);
        only(sheetOf(two), 0, y -> y.load(1));
        sentence("42: BEYOND: no such sheet. MISSING.");
        for (int bad : new int[] {-1, 4, MIN, MAX}) {
            refused(Sentences::busy, BEYOND, y -> y.load(bad));
        }
        refused(Sentences::busy, MISSING, y -> y.load(3));
        refused(Sentences::fresh, MISSING, y -> y.load(0));
    }

    // ---- promises 43 to 47

    private static void image() {
        sentence("43: All is kept: 1");
        same(x -> {
            busy(x);
            x.wipe();
            due(x.image(), 1);
            x.tear();
        }, x -> {
            busy(x);
            x.wipe();
            x.tear();
        });
        same(x -> {
            busy(x);
            x.wipe();
            x.image();
            disturb(x);
            x.undo();
            x.tear();
        }, x -> {
            busy(x);
            x.wipe();
            x.tear();
        });
        sentence("43: but THE TAPE and SHEETS");
        PrimedPumps x = in(Sentences::busy);
        x.image();
        x.wipe();
        x.feed(' ', 1);
        x.sheet(0, 0, 0);
        x.write(1, 0, 44);
        x.undo();
        due(x.count(5), 1);
        due(x.load(0), MISSING);
        due(x.load(1), 5);
        due(x.of(0, 2), 44);
    }

    /** Changes all that an image keeps. */
    private static void disturb(PrimedPumps x) {
        x.go(0);
        x.night();
        x.water(20);
        x.run(2);
        x.pour();
        x.rule(0, 400);
        x.rule(1, 9);
        x.rule(2, 3);
        x.seed(4);
        for (int p = 0; p < 7; p++) {
            x.change(p, 0, 6 - x.of(p, 0));
            x.change(p, 1, 77);
            x.change(p, 2, 55);
            x.change(p, 3, 9);
        }
        for (int spot = 0; spot < 10; spot++) {
            x.hold(spot, spot % 7);
        }
        x.pump(0, 0, 60);
        x.water(400);
        x.run(7);
        x.go(31);
        x.rule(3, 20);
    }

    private static void undo() {
        sentence("44: NONE: nothing is kept");
        refused(Sentences::fresh, NONE, PrimedPumps::undo);
        State torn = x -> {
            busy(x);
            x.tear();
        };
        refused(torn, NONE, PrimedPumps::undo);
        sentence("44: what was kept latest (which stays): how many PUMPS");
        PrimedPumps x = new PrimedPumps();
        x.image();
        x.pump(0, 0, 9);
        due(x.undo(), 0);
        due(x.count(0), 0);
        due(x.undo(), 0);
        x.pump(0, 0, 9);
        x.image();
        for (int p = 1; p < 8; p++) {
            x.pump(0, 0, 9);
        }
        due(x.undo(), 1);
        due(x.undo(), 1);
        for (int p = 1; p < 8; p++) {
            due(x.pump(0, 0, 9), p);
        }
        x.image();
        due(x.pump(0, 0, 9), FULL);
        due(x.undo(), 8);
        sentence("44: a PUMP that undo() takes away is none, nor held by a SPOT");
        x = in(Sentences::busy);
        due(x.undo(), 1);
        due(x.of(1, 0), BEYOND);
        due(x.as(0, 0), 0);
        due(x.as(1, 0), 0);
        due(x.as(9, 0), MISSING);
        due(x.count(7), 2);
        due(x.hold(9, 1), BEYOND);
        sentence("44: image() of what undo() brought is the same");
        same(y -> {
            busy(y);
            y.undo();
            y.image();
        }, y -> {
            busy(y);
            y.undo();
        });
    }

    private static void tear() {
        sentence("45: Nothing is kept: 1 if something was, else 0");
        only(Sentences::fresh, 0, PrimedPumps::tear);
        PrimedPumps x = in(Sentences::busy);
        due(x.tear(), 1);
        due(x.tear(), 0);
        due(x.undo(), NONE);
        due(x.image(), 1);
        due(x.undo(), 7);
        due(x.image(), 1);
        due(x.image(), 1);
        due(x.tear(), 1);
        due(x.tear(), 0);
        due(x.count(0), 7);
    }

    private static void count() {
        sentence("46: 0 PUMPS .. 7 SPOTS that hold something");
        PrimedPumps x = in(Sentences::busy);
        int yields = 8 + 19 + 29 + 1 + 20 + 17 + 10;
        int needs = 4 + 7 + 15 + 0 + 7 + 6 + 5;
        int[] all = {7, 3, 3, yields, needs, 16, -5, 2};
        for (int what = 0; what < 8; what++) {
            due(x.count(what), all[what]);
        }
        for (int what = 0; what < 8; what++) {
            int asked = what;
            only(Sentences::busy, all[what], y -> y.count(asked));
        }
        sentence("46: BEYOND: another what");
        for (int bad : new int[] {-1, 8, MIN, MAX}) {
            refused(Sentences::busy, BEYOND, y -> y.count(bad));
            refused(Sentences::fresh, BEYOND, y -> y.count(bad));
        }
        sentence("46: 0 to 8 PUMPS, 0 to 120 bytes, 0 to 10 SPOTS");
        x = in(Sentences::crowded);
        due(x.count(0), 8);
        due(in(tape(120)).count(5), 120);
        for (int spot = 0; spot < 10; spot++) {
            x.hold(spot, 7);
        }
        due(x.count(7), 10);
        for (int spot = 0; spot < 10; spot++) {
            x.hold(spot, -1);
        }
        due(x.count(7), 0);
        sentence("46: z that looks like a finding is none");
        only(y -> y.seed(BEYOND), BEYOND, y -> y.count(6));
        only(y -> y.seed(SIZE), SIZE, y -> y.count(6));
    }

    private static void status() {
        sentence("47: which -1: all, 0 to 6: BEYOND to SIZE");
        PrimedPumps x = in(Sentences::crowded);
        int[] before = new int[7];
        for (int which = 0; which < 7; which++) {
            before[which] = x.status(which);
        }
        x.of(8, 0);
        x.pump(0, 0, 9);
        x.pump(0, 0, 9);
        for (int i = 0; i < 3; i++) {
            x.as(9, 1);
        }
        for (int i = 0; i < 4; i++) {
            x.leastFor(999);
        }
        for (int i = 0; i < 5; i++) {
            x.run(0);
        }
        for (int i = 0; i < 6; i++) {
            x.load(3);
        }
        for (int i = 0; i < 7; i++) {
            x.sheet(0, 8, -1);
        }
        int all = 0;
        for (int which = 0; which < 7; which++) {
            due(x.status(which), before[which] + which + 1);
            all += before[which] + which + 1;
        }
        due(x.status(-1), all);
        only(Sentences::busy, 3, y -> y.status(-1));
        only(Sentences::busy, 1, y -> y.status(0));
        sentence("47: (undo() takes none back)");
        due(x.undo(), 1);
        due(x.status(-1), all);
        x.tear();
        due(x.undo(), NONE);
        due(x.status(-1), all + 1);
        due(x.status(3), before[3] + 5);
        sentence("47: BEYOND (counted from then on): another one");
        for (int bad : new int[] {-2, 7, MIN, MAX}) {
            refused(Sentences::busy, BEYOND, y -> y.status(bad));
        }
        PrimedPumps y = new PrimedPumps();
        due(y.status(7), BEYOND);
        due(y.status(0), 1);
        due(y.status(-2), BEYOND);
        due(y.status(0), 2);
        due(y.status(-1), 2);
        sentence("47: findings told as longs count, too");
        y.odds(-1, 0);
        y.mean(-1);
        due(y.status(0), 4);
    }
}
