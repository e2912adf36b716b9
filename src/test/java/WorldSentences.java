/** Promises 1 to 11, sentence by sentence. */
final class WorldSentences extends Check {

    @Says(promise = 1, words = "No PLACES; THE TAPE is empty, no image is kept.")
    static void newObject() {
        for (int i = 0; i < 2; i++) {
            MeltPins x = new MeltPins();
            int[] counts = {0, 0, 0, 0, 0, 1, 0};
            for (int what = 0; what <= 6; what++) due(x.count(what), counts[what]);
            for (int which = -1; which <= 6; which++) due(x.status(which), 0);
            due(x.placeOf(0, 0), BEYOND);
            due(x.undo(), NONE);
            due(x.tear(), 0);
            due(x.wipe(), 0);
            // What comes to this one is not there in the next one.
            read(x, "place 1;place 1");
            x.push(0, 0);
            x.image();
            x.sheet(0, 8, 1);
            x.feed(0, 1);
        }
    }

    // ---- feed

    @Says(promise = 2, words = "THE TAPE gets the n lowest bytes of a number behind it, the highest of these first (n 1 to 4): "
        + "how many it has.")
    static void feed() {
        MeltPins x = new MeltPins();
        due(x.feed(0x706c6163, 4), 4);           // plac
        due(x.feed(0x37206520, 2), 6);           // e, blank
        due(x.feed(0x00003639, 1), 7);           // 9
        due(x.feed(0x393b706c, 3), 10);          // ;pl
        due(x.feed(0xff616365, 3), 13);          // ace
        due(x.feed(0x39393939, 2), 15);          // 99
        due(x.world(), 2);
        due(x.placeOf(0, 1), 9);
        due(x.placeOf(1, 1), 99);
        // Any int: its highest byte comes first, whatever its sign.
        for (int bytes : new int[] {MIN, MAX, -1, 0}) {
            for (int n = 1; n <= 4; n++) {
                x = new MeltPins();
                due(x.feed(bytes, n), n);
                due(x.count(4), n);
                due(x.world(), -1);
                due(x.status(-1), 0);
            }
        }
        x = new MeltPins();
        due(x.feed(0xf0000039, 1), 1);
        due(x.feed(0x80000020, 1), 2);
        due(x.wipe(), 2);
        due(x.feed(0x706c6163, 4), 4);
        due(x.feed(0x80006520, 2), 6);
        due(x.feed(0x80000039, 1), 7);
        due(x.feed(0xff000000, 1), 8);
        due(x.world(), -8);
    }

    @Says(promise = 2, words = "BEYOND: n.")
    static void feedOfNoSuchN() {
        taken(Check::empty, (x, v) -> x.feed(0x20202020, v), 1, 4);
        refused(Check::full, x -> x.feed(0x20202020, 0), BEYOND);
        refused(Check::full, x -> x.feed(0x20202020, 5), BEYOND);
        refused(Check::full, x -> x.feed(MIN, MIN), BEYOND);
        refused(Check::full, x -> x.feed(MAX, MAX), BEYOND);
    }

    @Says(promise = 2, words = "FULL.")
    static void feedOfAFullTape() {
        for (int has = 114; has <= 120; has++) {
            int bytes = has;
            for (int n = 1; n <= 4; n++) {
                int more = n;
                if (has + n <= 120) takes(() -> tapeOf(bytes), x -> x.feed(0, more));
                else refused(() -> tapeOf(bytes), x -> x.feed(0, more), FULL);
            }
        }
        MeltPins x = tapeOf(118);
        due(x.feed(0x39393939, 3), FULL);
        due(x.feed(0x39393939, 2), 120);
        due(x.feed(0x39393939, 1), FULL);
        due(x.wipe(), 120);
        due(x.feed(0x39393939, 4), 4);
    }

    private static MeltPins tapeOf(int bytes) {
        MeltPins x = new MeltPins();
        feed(x, " ".repeat(bytes));
        return x;
    }

    // ---- wipe

    @Says(promise = 3, words = "THE TAPE is empty: how many it had.")
    static void wipe() {
        for (int has : new int[] {0, 1, 4, 119, 120}) {
            MeltPins x = tapeOf(has);
            due(x.wipe(), has);
            due(x.count(4), 0);
            due(x.wipe(), 0);
            due(x.world(), -1);
            due(x.status(-1), 0);
        }
        // Nothing of what was there comes back, and nothing else goes.
        MeltPins x = two();
        feed(x, "place 7;place 8");
        due(x.wipe(), 15);
        feed(x, "place ");
        due(x.world(), -7);
        feed(x, "stay 3");
        due(x.wipe(), 6);
        feed(x, "back 4");
        due(x.world(), 3);
        due(x.placeOf(2, 0), 2);
        same(Check::full, m -> {
            m.wipe();
            feed(m, ";".repeat(120));
        }, m -> { });
    }

    // ---- world

    @Says(promise = 4, words = "THE TAPE is a TEXT, and empty then; its PLACES and TIES come behind those that there are: "
        + "how many PLACES there are.")
    static void world() {
        MeltPins x = new MeltPins();
        due(read(x, "stay 3;back 4;0 to 1 by 5"), 2);
        due(x.count(4), 0);
        due(x.world(), -1);
        due(read(x, "part 6;2 to 0 by 7;0 to 2 by 8"), 3);
        due(x.count(0), 3);
        due(x.count(1), 3);
        int[][] rows = {{1, 3}, {2, 4}, {5, 6}};
        for (int place = 0; place < 3; place++) for (int what = 0; what < 2; what++) due(x.placeOf(place, what), rows[place][what]);
        due(x.tieOf(0, 1), 5);
        due(x.tieOf(2, 0), 7);
        due(x.tieOf(0, 2), 8);
        due(x.tieOf(1, 0), 0);
        // Only ties: as many places as there were.
        due(read(x, "1 to 0 by 9"), 3);
        due(x.count(1), 4);
        due(x.status(-1), 0);
        // Up to the twelfth.
        x = of("place 1;place 1;place 1;place 1;place 1;place 1;place 1;place 1;place 1;place 1;place 1");
        due(read(x, "told 9"), 12);
        due(x.placeOf(11, 0), 6);
        due(read(x, "11 to 0 by 9"), 12);
        // What there was stays as it was: HELD ones, PUSHES, SPOTS, STEPS.
        x = two();
        x.hold(1, true);
        x.push(3, 1);
        x.spot(0, 1);
        x.step(1);
        x.change(1, 7, 0);
        due(read(x, "place 1"), 3);
        int[] counts = {3, 0, 1, 1, 0, 1, 1};
        for (int what = 0; what <= 6; what++) due(x.count(what), counts[what]);
        due(x.placeOf(1, 8), 1);
        due(x.placeOf(1, 7), 0);
        due(x.placeOf(1, 10), 1);
    }

    @Says(promise = 4, words = "With a FAULT: -1 less the FAULT (nothing changes but that THE TAPE is empty; no finding).")
    static void worldWithAFault() {
        due(fault(""), -1);
        due(fault("#"), -1);
        due(fault(" #"), -2);
        due(fault(" ".repeat(119)), -120);
        due(fault(" ".repeat(120)), -121);
        String[] texts = {"place 5;place 6;ice 7", "place 5;0 to 1 by 5;", "0 to 11 by 5;0 to 11 by 6", "told 1;told 1;told 1"};
        for (String text : texts) {
            same(WorldSentences::eleven, x -> { }, x -> {
                due(read(x, text) < 0 ? 1 : 0, 1);
                due(x.count(4), 0);
                due(x.status(-1), 0);
            });
        }
        same(Check::full, x -> x.wipe(), x -> due(x.world(), -1));
        // The places of a faulty text don't count for the next one, and neither do its ties.
        MeltPins x = new MeltPins();
        due(read(x, "place 5;place 6;0 to 1 by 2;"), -29);
        due(read(x, "0 to 1 by 2"), -1);
        due(read(x, "place 7;place 8;0 to 1 by 3"), 2);
        due(x.placeOf(0, 1), 7);
        due(x.tieOf(0, 1), 3);
        due(x.count(1), 1);
    }

    private static MeltPins eleven() {
        return of("place 1;place 1;place 1;place 1;place 1;place 1", "place 1;place 1;place 1;place 1;place 1;1 to 0 by 9");
    }

    // ---- placeOf

    @Says(promise = 5, words = "Of a PLACE: what 0 KIND, 1 BAR, 2 LOWER, 3 TAKES, 4 COST, 5 PRICE, 6 CHANCE, 7 SPOILS, 8 STEPS, "
        + "9 HEIGHT, 10 1 if it is HELD, else 0.")
    static void placeOf() {
        MeltPins x = of("told 91 lower 12 takes 3 cost 14 price 15 chance 6;part 92 lower 99 takes 9 cost 98 price 97 chance 10");
        x.change(0, 7, 1);
        x.step(1);
        x.step(1);
        x.hold(1, true);
        int[][] rows = {{6, 91, 12, 3, 14, 15, 6, 1, 0, 45, 0}, {5, 92, 99, 9, 98, 97, 10, -1, 2, 72, 1}};
        for (int place = 0; place < 2; place++) {
            for (int what = 0; what <= 10; what++) due(x.placeOf(place, what), rows[place][what]);
        }
        due(x.hold(1, false), 1);
        due(x.placeOf(1, 10), 0);
        due(x.status(-1), 0);
        x = twelve();
        due(x.placeOf(11, 1), 1);
        due(x.placeOf(11, 7), -1);
    }

    @Says(promise = 5, words = "BEYOND.")
    static void placeOfBeyond() {
        taken(Check::two, (x, v) -> x.placeOf(v, 0), 0, 1);
        taken(Check::full, (x, v) -> x.placeOf(v, 10), 0, 11);
        taken(Check::two, (x, v) -> x.placeOf(1, v), 0, 10);
        refused(Check::empty, x -> x.placeOf(0, 0), BEYOND);
        refused(Check::two, x -> x.placeOf(MIN, MAX), BEYOND);
        refused(Check::two, x -> x.placeOf(MAX, MIN), BEYOND);
    }

    // ---- change

    @Says(promise = 6, words = "BAR (what 1) to SPOILS (7) of a PLACE becomes v: what it was.")
    static void change() {
        MeltPins x = of("place 9;stay 8 lower 2 takes 3 cost 4 price 5 chance 6;place 9");
        int[] row = {1, 8, 2, 3, 4, 5, 6, -1};
        int[] then = {1, 90, 91, 9, 93, 94, 7, 2};
        for (int what = 1; what <= 7; what++) {
            due(x.change(1, what, then[what]), row[what]);
            due(x.change(1, what, then[what]), then[what]);
            for (int other = 0; other <= 7; other++) due(x.placeOf(1, other), other <= what ? then[other] : row[other]);
        }
        due(x.change(1, 7, 0), 2);
        due(x.change(1, 7, -1), 0);
        due(x.placeOf(1, 7), -1);
        for (int place : new int[] {0, 2}) {
            due(x.placeOf(place, 1), 9);
            for (int what = 2; what <= 7; what++) due(x.placeOf(place, what), what == 4 || what == 5 ? 1 : what == 7 ? -1 : 0);
        }
        due(x.placeOf(1, 9), 90);
        due(x.status(-1), 0);
    }

    @Says(promise = 6, words = "BEYOND (SPOILS: -1, or another PLACE).")
    static void changeBeyond() {
        taken(Check::two, (x, v) -> x.change(v, 1, 5), 0, 1);
        taken(Check::two, (x, v) -> x.change(1, v, 1), 1, 6);
        refused(Check::two, x -> x.change(1, 7, 1), BEYOND);
        takes(Check::two, x -> x.change(1, 7, 0));
        takes(Check::two, x -> x.change(0, 7, 1));
        refused(Check::two, x -> x.change(0, 7, 0), BEYOND);
        taken(Check::twelve, (x, v) -> x.change(0, 7, v), -1, 11);
        taken(Check::twelve, (x, v) -> x.change(11, 7, v), -1, 10);
        refused(Check::twelve, x -> x.change(5, 7, 5), BEYOND);
        int[] low = {0, 1, 0, 0, 1, 1, 0};
        int[] high = {0, 99, 99, 9, 99, 99, 10};
        for (int what = 1; what <= 6; what++) {
            int trait = what;
            taken(Check::full, (x, v) -> x.change(11, trait, v), low[what], high[what]);
        }
        refused(Check::two, x -> x.change(1, 0, 1), BEYOND);
        refused(Check::two, x -> x.change(1, 8, 1), BEYOND);
        refused(Check::two, x -> x.change(1, 9, 1), BEYOND);
        refused(Check::two, x -> x.change(1, 10, 1), BEYOND);
        refused(Check::empty, x -> x.change(0, 1, 1), BEYOND);
        refused(Check::two, x -> x.change(MIN, MIN, MIN), BEYOND);
        refused(Check::two, x -> x.change(MAX, MAX, MAX), BEYOND);
    }

    // ---- step

    @Says(promise = 7, words = "A PLACE has one STEP more: how many.")
    static void step() {
        MeltPins x = kinds();
        for (int steps = 1; steps <= 9; steps++) {
            for (int place = 0; place < 7; place++) {
                due(x.step(place), steps);
                due(x.placeOf(place, 8), steps);
            }
        }
        due(x.status(-1), 0);
        x = two();
        due(x.step(1), 1);
        due(x.step(1), 2);
        due(x.placeOf(0, 8), 0);
    }

    @Says(promise = 7, words = "BEYOND.")
    static void stepBeyond() {
        taken(Check::two, (x, v) -> x.step(v), 0, 1);
        taken(Check::twelve, (x, v) -> x.step(v), 0, 11);
        refused(Check::empty, x -> x.step(0), BEYOND);
    }

    @Says(promise = 7, words = "FULL: it has 9.")
    static void stepFull() {
        refused(() -> stepped(9), x -> x.step(0), FULL);
        takes(() -> stepped(9), x -> x.step(1));
        takes(() -> stepped(8), x -> x.step(0));
        MeltPins x = stepped(9);
        due(x.step(0), FULL);
        due(x.placeOf(0, 8), 9);
        due(x.placeOf(0, 9), 1);
    }

    private static MeltPins stepped(int steps) {
        MeltPins x = of("part 91;place 1");
        for (int i = 0; i < steps; i++) x.step(0);
        return x;
    }

    // ---- tie

    @Says(promise = 8, words = "A TIE, or its PART becomes another: what it was (0 without one).")
    static void tie() {
        MeltPins x = of("place 1;place 1;place 1");
        due(x.tie(0, 1, 1), 0);
        due(x.count(1), 1);
        due(x.tie(0, 1, 99), 1);
        due(x.tie(0, 1, 99), 99);
        due(x.tie(0, 1, 7), 99);
        due(x.count(1), 1);
        due(x.tie(1, 0, 8), 0);
        due(x.tie(1, 2, 9), 0);
        due(x.count(1), 3);
        due(x.tieOf(0, 1), 7);
        due(x.tieOf(1, 0), 8);
        due(x.tieOf(1, 2), 9);
        due(x.tieOf(2, 1), 0);
        x.cut(0, 1);
        due(x.tie(0, 1, 3), 0);
        x = twelve();
        due(x.tie(11, 0, 5), 0);
        due(x.tie(0, 11, 6), 0);
        due(x.status(-1), 0);
    }

    @Says(promise = 8, words = "BEYOND: from, to (also one and the same), part.")
    static void tieBeyond() {
        taken(Check::twelve, (x, v) -> x.tie(v, 5, 1), 0, 11);
        taken(Check::twelve, (x, v) -> x.tie(5, v, 1), 0, 11);
        taken(Check::twelve, (x, v) -> x.tie(0, 11, v), 1, 99);
        taken(Check::two, (x, v) -> x.tie(1 - (v & 1), v, 1), 0, 1);
        for (int place = 0; place < 12; place++) {
            int one = place;
            refused(Check::twelve, x -> x.tie(one, one, 1), BEYOND);
        }
        refused(Check::empty, x -> x.tie(0, 1, 1), BEYOND);
        refused(() -> of("place 1"), x -> x.tie(0, 1, 1), BEYOND);
        refused(Check::full, x -> x.tie(0, 11, 0), BEYOND);
        refused(Check::full, x -> x.tie(0, 11, 100), BEYOND);
        refused(Check::two, x -> x.tie(MIN, MIN, MIN), BEYOND);
        refused(Check::two, x -> x.tie(MAX, MAX, MAX), BEYOND);
    }

    @Says(promise = 8, words = "FULL.")
    static void tieFull() {
        refused(Check::forty, x -> x.tie(11, 0, 1), FULL);
        refused(Check::forty, x -> x.tie(0, 1, 99), FULL);
        takes(Check::forty, x -> x.tie(0, 11, 99));
        MeltPins x = forty();
        due(x.tie(0, 11, 9), 5);
        due(x.count(1), 40);
        due(x.tie(11, 0, 9), FULL);
        due(x.cut(0, 11), 39);
        due(x.tie(11, 0, 9), 0);
        due(x.count(1), 40);
        due(x.tie(0, 11, 9), FULL);
        due(x.tieOf(0, 11), 0);
    }

    // ---- tieOf

    @Says(promise = 9, words = "PART of a TIE (0 without one).")
    static void tieOf() {
        MeltPins x = of("place 1;place 1;place 1;1 to 0 by 99;0 to 2 by 1");
        int[][] parts = {{0, 0, 1}, {99, 0, 0}, {0, 0, 0}};
        for (int from = 0; from < 3; from++) for (int to = 0; to < 3; to++) due(x.tieOf(from, to), parts[from][to]);
        due(x.status(-1), 0);
        x = forty();
        int ties = 0;
        for (int from = 0; from < 12; from++) for (int to = 0; to < 12; to++) if (x.tieOf(from, to) == 5) ties++;
        due(ties, 40);
        due(x.tieOf(0, 11), 5);
        due(x.tieOf(11, 11), 0);
    }

    @Says(promise = 9, words = "BEYOND.")
    static void tieOfBeyond() {
        taken(Check::two, (x, v) -> x.tieOf(v, 0), 0, 1);
        taken(Check::two, (x, v) -> x.tieOf(0, v), 0, 1);
        taken(Check::full, (x, v) -> x.tieOf(v, 11), 0, 11);
        taken(Check::full, (x, v) -> x.tieOf(11, v), 0, 11);
        refused(Check::empty, x -> x.tieOf(0, 0), BEYOND);
        refused(Check::two, x -> x.tieOf(2, 2), BEYOND);
    }

    // ---- cut

    @Says(promise = 10, words = "A TIE is none any more: how many are left.")
    static void cut() {
        MeltPins x = forty();
        int left = 40;
        for (int from = 0; from < 12; from++) {
            for (int to = 0; to < 12; to++) {
                if (x.tieOf(from, to) > 0) {
                    left--;
                    due(x.cut(from, to), left);
                    due(x.tieOf(from, to), 0);
                }
            }
        }
        due(left, 0);
        due(x.count(1), 0);
        due(x.status(-1), 0);
        x = of("place 1;place 1;0 to 1 by 3;1 to 0 by 4");
        due(x.stand(1), 3);
        due(x.cut(0, 1), 1);
        due(x.tieOf(1, 0), 4);
        due(x.stand(1), 1);
        due(x.stand(2), 3);
    }

    @Says(promise = 10, words = "BEYOND.")
    static void cutBeyond() {
        for (int place : new int[] {-1, 12, MIN, MAX}) {
            refused(Check::full, x -> x.cut(place, 11), BEYOND);
            refused(Check::full, x -> x.cut(0, place), BEYOND);
            refused(Check::full, x -> x.cut(place, place), BEYOND);
        }
        refused(Check::two, x -> x.cut(0, 2), BEYOND);
        refused(Check::two, x -> x.cut(2, 0), BEYOND);
        refused(Check::empty, x -> x.cut(0, 0), BEYOND);
    }

    @Says(promise = 10, words = "NONE.")
    static void cutNone() {
        refused(Check::full, x -> x.cut(0, 1), NONE);
        refused(Check::full, x -> x.cut(11, 0), NONE);
        refused(Check::full, x -> x.cut(11, 11), NONE);
        refused(Check::two, x -> x.cut(0, 1), NONE);
        refused(() -> of("place 1;place 1;0 to 1 by 3"), x -> x.cut(1, 0), NONE);
        MeltPins x = of("place 1;place 1;0 to 1 by 3");
        due(x.cut(0, 1), 0);
        due(x.cut(0, 1), NONE);
        due(x.count(1), 0);
    }

    // ---- hold

    @Says(promise = 11, words = "A PLACE is HELD, or not: 1 if it was, else 0.")
    static void hold() {
        MeltPins x = twelve();
        for (int place : new int[] {0, 5, 11}) {
            due(x.hold(place, false), 0);
            due(x.hold(place, true), 0);
            due(x.hold(place, true), 1);
            due(x.placeOf(place, 10), 1);
        }
        due(x.count(3), 3);
        due(x.stand(4095), 4095 - 1 - 32 - 2048);
        due(x.hold(5, false), 1);
        due(x.hold(5, false), 0);
        due(x.count(3), 2);
        due(x.stand(4095), 4095 - 1 - 2048);
        for (int place = 0; place < 12; place++) x.hold(place, true);
        due(x.count(3), 12);
        due(x.stand(4095), 0);
        due(x.status(-1), 0);
    }

    @Says(promise = 11, words = "BEYOND.")
    static void holdBeyond() {
        taken(Check::two, (x, v) -> x.hold(v, true), 0, 1);
        taken(Check::two, (x, v) -> x.hold(v, false), 0, 1);
        taken(Check::twelve, (x, v) -> x.hold(v, true), 0, 11);
        refused(Check::empty, x -> x.hold(0, true), BEYOND);
        refused(Check::empty, x -> x.hold(0, false), BEYOND);
    }
}
