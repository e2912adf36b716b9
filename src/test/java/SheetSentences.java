/** Promises 36 to 45, sentence by sentence. */
final class SheetSentences extends Check {

    // ---- spot

    @Says(promise = 36, words = "A SPOT holds a PLACE, or nothing (-1): 1.")
    static void spot() {
        MeltPins x = twelve();
        for (int spot = 0; spot < 10; spot++) {
            due(x.spot(spot, 11), 1);
            due(x.as(spot, 0), 11);
            due(x.spot(spot, 0), 1);
            due(x.as(spot, 0), 0);
            due(x.count(6), spot + 1);
        }
        for (int spot = 0; spot < 10; spot++) {
            due(x.spot(spot, -1), 1);
            due(x.spot(spot, -1), 1);
            due(x.as(spot, 0), MISSING);
            due(x.count(6), 9 - spot);
        }
        due(new MeltPins().spot(0, -1), 1);
        due(new MeltPins().spot(9, -1), 1);
    }

    @Says(promise = 36, words = "BEYOND.")
    static void spotBeyond() {
        taken(Check::two, (x, v) -> x.spot(v, 1), 0, 9);
        taken(Check::empty, (x, v) -> x.spot(v, -1), 0, 9);
        taken(Check::two, (x, v) -> x.spot(3, v), -1, 1);
        taken(Check::full, (x, v) -> x.spot(9, v), -1, 11);
        taken(Check::empty, (x, v) -> x.spot(0, v), -1, -1);
    }

    // ---- as

    @Says(promise = 37, words = "What a SPOT holds as one of a kind (0 to 6): the number of the PLACE.")
    static void as() {
        MeltPins x = kinds();
        int[][] above = {{0}, {1, 0}, {2, 0}, {3, 1, 0}, {4, 1, 0}, {5, 2, 0}, {6, 3, 1, 0}};
        for (int place = 0; place < 7; place++) {
            due(x.spot(9 - place, place), 1);
            for (int kind : above[place]) due(x.as(9 - place, kind), place);
        }
        due(x.status(-1), 0);
        x = full();
        for (int spot = 0; spot < 10; spot++) due(x.as(spot, 0), spot);
        due(x.spot(9, 11), 1);
        due(x.as(9, 0), 11);
    }

    @Says(promise = 37, words = "BEYOND.")
    static void asBeyond() {
        taken(Check::full, (x, v) -> x.as(v, 0), 0, 9);
        takes(SheetSentences::toldInNine, x -> x.as(9, 0));
        takes(SheetSentences::toldInNine, x -> x.as(9, 6));
        for (int kind : new int[] {-1, 7, MIN, MAX}) {
            refused(SheetSentences::toldInNine, x -> x.as(9, kind), BEYOND);
            refused(Check::empty, x -> x.as(0, kind), BEYOND);
        }
        for (int spot : new int[] {-1, 10, MIN, MAX}) refused(Check::empty, x -> x.as(spot, 6), BEYOND);
    }

    private static MeltPins toldInNine() {
        MeltPins x = of("told 9");
        x.spot(9, 0);
        return x;
    }

    @Says(promise = 37, words = "MISSING: it holds nothing.")
    static void asMissing() {
        for (int spot = 0; spot < 10; spot++) {
            int one = spot;
            for (int kind = 0; kind < 7; kind++) {
                int of = kind;
                refused(Check::kinds, x -> x.as(one, of), MISSING);
            }
            refused(Check::empty, x -> x.as(one, 0), MISSING);
        }
        MeltPins x = toldInNine();
        due(x.as(9, 6), 0);
        due(x.as(8, 6), MISSING);
        x.spot(9, -1);
        due(x.as(9, 6), MISSING);
    }

    @Says(promise = 37, words = "KIND: it isn't of that kind, nor of one under it.")
    static void asOfAnotherKind() {
        String[] under = {"0", "01", "02", "013", "014", "025", "0136"};
        for (int place = 0; place < 7; place++) {
            for (int kind = 0; kind < 7; kind++) {
                int one = place, of = kind;
                Made made = () -> {
                    MeltPins x = kinds();
                    x.spot(4, one);
                    return x;
                };
                if (under[place].indexOf('0' + kind) < 0) refused(made, x -> x.as(4, of), KIND);
                else takes(made, x -> x.as(4, of));
            }
        }
    }

    // ---- sheet

    /** Sheets 0 and 1 of 8 bits, 2 of 16, each of one number; 3 is missing. */
    private static MeltPins threeSheets() {
        MeltPins x = of("place 1");
        x.push(0, 0);
        row(x, 0, 8, 1, 1);
        row(x, 1, 8, 1, 1);
        row(x, 2, 16, 1, 1);
        return x;
    }

    @Says(promise = 38, words = "A sheet has n numbers, all 0, of 8, 16 or 32 bits; bits 0: it is MISSING: n (0 if it is MISSING).")
    static void sheet() {
        for (int s = 0; s <= 3; s++) {
            for (int bits : new int[] {8, 16, 32}) {
                for (int n : new int[] {0, 1, 39, 40}) {
                    MeltPins x = new MeltPins();
                    due(x.sheet(s, bits, n), n);
                    due(x.judge(s), 0);
                    due(x.copy(s, n, s, n, 0), 0);
                    due(x.copy(s, 0, s, 0, n), n);
                    due(x.status(-1), 0);
                    due(x.write(s, n, 0), BEYOND);
                    if (n > 0) due(x.write(s, n - 1, 0), 1);
                }
                for (int n : new int[] {0, 7, 40}) {
                    MeltPins x = new MeltPins();
                    x.sheet(s, bits, 5);
                    due(x.sheet(s, 0, n), 0);
                    due(x.status(-1), 0);
                    due(x.judge(s), MISSING);
                    due(x.sheet(s, 0, n), 0);
                    due(x.sheet(s, bits, 3), 3);
                    due(x.judge(s), 0);
                }
            }
        }
        // All 0, also where it had others, in as many or in other numbers of bits.
        MeltPins x = new MeltPins();
        for (int bits : new int[] {8, 16, 32, 8}) {
            row(x, 0, bits, 40, -1);
            due(x.judge(0), 1);
            due(x.sheet(0, bits, 40), 40);
            due(x.judge(0), 0);
            row(x, 0, bits, 40, 77);
            due(x.sheet(0, bits, 1), 1);
            due(x.sheet(0, 32, 40), 40);
            due(x.judge(0), 0);
        }
        // The others stay as they were.
        same(SheetSentences::threeSheets, m -> m.sheet(3, 0, 0), m -> {
            due(m.sheet(3, 32, 40), 40);
            due(m.judge(0), 0);
            due(m.sheet(3, 0, 40), 0);
        });
    }

    @Says(promise = 38, words = "BEYOND: no such sheet, other bits.")
    static void sheetOfOtherBits() {
        taken(SheetSentences::threeSheets, (x, v) -> x.sheet(v, 8, 5), 0, 3);
        taken(SheetSentences::threeSheets, (x, v) -> x.sheet(v, 0, 5), 0, 3);
        for (int bits : new int[] {-1, 1, 7, 9, 15, 17, 24, 31, 33, 64, 128, -8, -32, MIN, MAX}) {
            refused(SheetSentences::threeSheets, x -> x.sheet(2, bits, 5), BEYOND);
            refused(SheetSentences::threeSheets, x -> x.sheet(2, bits, -1), BEYOND);
        }
        refused(SheetSentences::threeSheets, x -> x.sheet(4, 8, -1), BEYOND);
        refused(SheetSentences::threeSheets, x -> x.sheet(-1, 0, MIN), BEYOND);
    }

    @Says(promise = 38, words = "SIZE: n is below 0 (also with bits 0).")
    static void sheetOfLessThanNone() {
        for (int bits : new int[] {0, 8, 16, 32}) {
            takes(SheetSentences::threeSheets, x -> x.sheet(1, bits, 0));
            refused(SheetSentences::threeSheets, x -> x.sheet(1, bits, -1), SIZE);
            refused(SheetSentences::threeSheets, x -> x.sheet(1, bits, MIN), SIZE);
            refused(Check::empty, x -> x.sheet(3, bits, -1), SIZE);
        }
    }

    @Says(promise = 38, words = "BEYOND: n is above 40 (also with bits 0).")
    static void sheetOfTooMany() {
        for (int bits : new int[] {0, 8, 16, 32}) {
            takes(SheetSentences::threeSheets, x -> x.sheet(1, bits, 40));
            refused(SheetSentences::threeSheets, x -> x.sheet(1, bits, 41), BEYOND);
            refused(SheetSentences::threeSheets, x -> x.sheet(1, bits, MAX), BEYOND);
            refused(Check::empty, x -> x.sheet(3, bits, 41), BEYOND);
        }
    }

    // ---- write

    @Says(promise = 39, words = "Number i of a sheet becomes v (its lowest bits): 1.")
    static void write() {
        for (int bits : new int[] {8, 16, 32}) {
            // A number of places that are over, with what doesn't fit above it.
            MeltPins x = twelve();
            for (int place = 0; place < 12; place++) x.push(place, place);
            x.sheet(1, bits, 40);
            for (int i = 39; i >= 0; i--) {
                int over = Math.min(12, i + 1);
                due(x.write(1, i, bits == 32 ? over : over + (5 << bits)), 1);
                due(x.judge(1), i == 0 ? 0 : 1);
            }
            due(x.write(1, 20, bits == 32 ? 12 : 12 - (1 << bits)), 1);
            due(x.judge(1), 0);
            due(x.write(1, 20, 13), 1);
            due(x.judge(1), 21);
            due(x.write(1, 20, 12 + (1 << bits - 1)), 1);
            due(x.judge(1), 21);
            due(x.write(1, 20, bits == 32 ? 12 + 65536 : 12 + (1 << bits)), 1);
            due(x.judge(1), bits == 32 ? 21 : 0);
            due(x.status(-1), 0);
        }
        for (int v : new int[] {MIN, MAX, -1, 0}) {
            MeltPins x = new MeltPins();
            for (int bits : new int[] {8, 16, 32}) {
                x.sheet(0, bits, 1);
                due(x.write(0, 0, v), 1);
                due(x.judge(0), v == 0 || v == MIN && bits < 32 ? 0 : 1);
            }
        }
    }

    @Says(promise = 39, words = "BEYOND: no such sheet.")
    static void writeOnNoSuchSheet() {
        taken(() -> sheets(5, 5), (x, v) -> x.write(v, 0, 1), 0, 3);
        for (int s : new int[] {-1, 4, MIN, MAX}) {
            refused(Check::empty, x -> x.write(s, 0, 1), BEYOND);
            refused(Check::full, x -> x.write(s, 39, 1), BEYOND);
            refused(Check::full, x -> x.write(s, 40, 1), BEYOND);
        }
    }

    @Says(promise = 39, words = "MISSING.")
    static void writeOnAMissingSheet() {
        for (int i : new int[] {0, 39, 40, -1, MIN, MAX}) {
            refused(Check::full, x -> x.write(3, i, 1), MISSING);
            refused(Check::empty, x -> x.write(0, i, 1), MISSING);
        }
    }

    @Says(promise = 39, words = "BEYOND: no such number.")
    static void writeOfNoSuchNumber() {
        taken(Check::full, (x, v) -> x.write(0, v, 12), 0, 39);
        taken(SheetSentences::threeSheets, (x, v) -> x.write(2, v, 1), 0, 0);
        for (int i : new int[] {0, -1, 1, 39, MIN, MAX}) {
            refused(() -> {
                MeltPins x = new MeltPins();
                x.sheet(0, 8, 0);
                return x;
            }, x -> x.write(0, i, 1), BEYOND);
        }
    }

    // ---- copy

    @Says(promise = 40, words = "n numbers of a sheet from one on come to another one from one on (as they all were): n.")
    static void copy() {
        // Behind years 1 to 5 just as many are over.
        for (int bits : new int[] {8, 16, 32}) {
            MeltPins x = of("place 9;place 9;place 9;place 9;place 9");
            for (int place = 0; place < 5; place++) x.push(place, place);
            sheetOf(x, 0, bits, 1, 2, 3, 4, 5);
            x.sheet(3, bits, 5);
            due(x.copy(0, 0, 3, 0, 0), 0);
            due(x.judge(3), 1);
            due(x.copy(0, 0, 3, 0, 1), 1);
            due(x.judge(3), 2);
            due(x.copy(0, 1, 3, 1, 3), 3);
            due(x.judge(3), 5);
            due(x.copy(0, 4, 3, 4, 1), 1);
            due(x.judge(3), 0);
            due(x.judge(0), 0);
            // To itself, up and down, over one another: as they all were.
            due(x.copy(0, 0, 0, 1, 4), 4);
            sheetOf(x, 1, bits, 1, 1, 2, 3, 4);
            sameRow(x, 0, 1);
            due(x.copy(0, 1, 0, 0, 4), 4);
            sheetOf(x, 1, bits, 1, 2, 3, 4, 4);
            sameRow(x, 0, 1);
            due(x.copy(0, 2, 0, 0, 3), 3);
            sheetOf(x, 1, bits, 3, 4, 4, 4, 4);
            sameRow(x, 0, 1);
            due(x.copy(3, 0, 3, 0, 5), 5);
            due(x.judge(3), 0);
            due(x.copy(3, 0, 0, 0, 5), 5);
            due(x.judge(0), 0);
            due(x.status(-1), 0);
        }
        MeltPins x = full();
        x.sheet(1, 8, 40);
        due(x.judge(1), 1);
        due(x.copy(0, 0, 1, 0, 40), 40);
        due(x.judge(1), 0);
        due(x.copy(0, 40, 1, 40, 0), 0);
        // Numbers below 0 stay what they are.
        x = new MeltPins();
        sheetOf(x, 0, 16, -1, -32768, 32767);
        sheetOf(x, 1, 16, 0, 0, 0);
        due(x.copy(0, 0, 1, 0, 3), 3);
        sameRow(x, 0, 1);
    }

    /** Two sheets of five or of three numbers, the same: a plan by which the one is right does for the other one, too. */
    private static void sameRow(MeltPins x, int s, int t) {
        due(x.judge(s), x.judge(t));
        x.image();
        x.clear();
        due(x.judge(s), x.judge(t));
        for (int year = 0; year < 4; year++) {
            for (int place = 0; place < x.count(0) && place <= 2; place++) x.push(year, place);
            due(x.judge(s), x.judge(t));
        }
        x.undo();
    }

    @Says(promise = 40, words = "BEYOND: no such sheet (either).")
    static void copyOfNoSuchSheet() {
        for (int s : new int[] {-1, 4, MIN, MAX}) {
            for (int t : new int[] {0, 2, 3, -1, 4, MIN, MAX}) {
                refused(Check::full, x -> x.copy(s, 0, t, 0, 0), BEYOND);
                refused(Check::full, x -> x.copy(t, 0, s, 0, 0), BEYOND);
                refused(Check::empty, x -> x.copy(s, -1, t, -1, -1), BEYOND);
            }
        }
        taken(() -> sheets(5, 5), (x, v) -> x.copy(v, 0, 3, 0, 1), 0, 3);
        taken(() -> sheets(5, 5), (x, v) -> x.copy(0, 0, v, 0, 1), 0, 3);
    }

    /** Four sheets of 8 bits: 0 has so many numbers, all 1, the others have so many, all 0. */
    private static MeltPins sheets(int n, int others) {
        MeltPins x = of("place 1");
        row(x, 0, 8, n, 1);
        for (int s = 1; s <= 3; s++) x.sheet(s, 8, others);
        return x;
    }

    @Says(promise = 40, words = "MISSING: one is.")
    static void copyOfAMissingSheet() {
        for (int n : new int[] {0, 1, 41, -1, MIN, MAX}) {
            refused(Check::full, x -> x.copy(3, 0, 0, 0, n), MISSING);
            refused(Check::full, x -> x.copy(0, 0, 3, 0, n), MISSING);
            refused(Check::full, x -> x.copy(3, n, 3, n, 0), MISSING);
            refused(Check::empty, x -> x.copy(0, n, 1, n, n), MISSING);
        }
    }

    @Says(promise = 40, words = "KIND: they are not of as many bits.")
    static void copyOfOtherBits() {
        for (int n : new int[] {0, 1, 41, -1, MIN, MAX}) {
            refused(Check::full, x -> x.copy(0, 0, 2, 0, n), KIND);
            refused(Check::full, x -> x.copy(2, n, 0, n, 0), KIND);
        }
        int[] widths = {8, 16, 32};
        for (int one : widths) {
            for (int other : widths) {
                Made made = () -> {
                    MeltPins x = new MeltPins();
                    x.sheet(0, one, 3);
                    x.sheet(1, other, 3);
                    return x;
                };
                if (one == other) takes(made, x -> x.copy(0, 0, 1, 0, 3));
                else refused(made, x -> x.copy(0, 0, 1, 0, 3), KIND);
            }
        }
    }

    @Says(promise = 40, words = "BEYOND: one has not so many, or from, to or n is below 0.")
    static void copyOfTooMany() {
        // The one has 5, the other one 3.
        taken(() -> sheets(5, 3), (x, v) -> x.copy(0, v, 1, 0, 1), 0, 4);
        taken(() -> sheets(5, 3), (x, v) -> x.copy(0, v, 1, 0, 3), 0, 2);
        taken(() -> sheets(5, 3), (x, v) -> x.copy(0, v, 1, 0, 0), 0, 5);
        taken(() -> sheets(5, 3), (x, v) -> x.copy(0, 0, 1, v, 1), 0, 2);
        taken(() -> sheets(5, 3), (x, v) -> x.copy(0, 0, 1, v, 0), 0, 3);
        taken(() -> sheets(5, 3), (x, v) -> x.copy(0, 0, 1, 0, v), 0, 3);
        taken(() -> sheets(3, 5), (x, v) -> x.copy(0, 0, 1, 0, v), 0, 3);
        taken(() -> sheets(5, 3), (x, v) -> x.copy(0, 4, 1, 0, v), 0, 1);
        taken(() -> sheets(5, 3), (x, v) -> x.copy(0, 0, 1, 2, v), 0, 1);
        taken(() -> sheets(0, 0), (x, v) -> x.copy(0, 0, 1, 0, v), 0, 0);
        taken(() -> sheets(40, 40), (x, v) -> x.copy(0, 0, 1, 0, v), 0, 40);
        taken(() -> sheets(40, 40), (x, v) -> x.copy(0, v, 0, 39, 1), 0, 39);
        refused(() -> sheets(5, 3), x -> x.copy(0, MAX, 1, MAX, MAX), BEYOND);
        refused(() -> sheets(5, 3), x -> x.copy(0, MIN, 1, MIN, MIN), BEYOND);
        refused(() -> sheets(5, 3), x -> x.copy(0, MAX, 1, 0, 3), BEYOND);
        refused(() -> sheets(5, 3), x -> x.copy(0, 1, 1, 1, MAX), BEYOND);
        refused(() -> sheets(5, 3), x -> x.copy(0, 3, 1, 1, -1), BEYOND);
        refused(() -> sheets(5, 3), x -> x.copy(0, 0, 1, 4, -1), BEYOND);
        refused(() -> sheets(5, 3), x -> x.copy(0, -1, 1, 0, 2), BEYOND);
        refused(() -> sheets(5, 3), x -> x.copy(0, 0, 1, -1, 2), BEYOND);
        refused(() -> sheets(5, 3), x -> x.copy(0, 0, 0, 1, 5), BEYOND);
    }

    // ---- images

    @Says(promise = 41, words = "All but THE TAPE and SHEETS is kept: 1.")
    static void image() {
        due(new MeltPins().image(), 1);
        // Whatever becomes of it, it comes back as it was ...
        same(SheetSentences::keptTwo, m -> m.undo(), m -> {
            overThrow(m);
            m.undo();
        });
        same(Check::full, m -> m.undo(), m -> {
            for (int i = 0; i < 20; i++) m.cut(0, i);
            m.clear();
            m.seed(9);
            for (int place = 0; place < 12; place++) {
                m.hold(place, true);
                m.change(place, 1, 50);
                m.change(place, 2, 51);
                m.change(place, 3, 5);
                m.change(place, 4, 53);
                m.change(place, 5, 54);
                m.change(place, 6, 6);
                m.change(place, 7, place == 0 ? 1 : 0);
                m.spot(place, -1);
            }
            m.undo();
        });
        // ... but for the tape and the sheets, which stay as they are.
        MeltPins x = keptTwo();
        due(x.count(4), 2);
        overThrow(x);
        x.sheet(0, 0, 0);
        x.sheet(1, 8, 5);
        x.feed(0x706c6163, 4);
        x.feed(0x6539, 2);
        due(x.undo(), 2);
        due(x.count(4), 8);
        due(x.world(), 3);
        due(x.judge(0), MISSING);
        due(x.copy(1, 5, 1, 5, 0), 0);
        due(x.copy(1, 6, 1, 6, 0), BEYOND);
        // Just one is kept: the latest.
        x = two();
        due(x.image(), 1);
        x.seed(5);
        due(x.image(), 1);
        x.seed(6);
        due(x.undo(), 2);
        due(x.count(5), 5);
    }

    /** Two places, of each thing something, all kept; sheets 0 and 1, a tape of two bytes. */
    private static MeltPins keptTwo() {
        MeltPins x = of("part 7 lower 2 takes 3 cost 4 price 5 chance 6;place 1;0 to 1 by 3");
        x.push(4, 1);
        x.push(2, 0);
        x.hold(0, true);
        x.step(0);
        x.change(0, 7, 1);
        x.spot(2, 1);
        x.seed(77);
        x.sheet(0, 8, 3);
        x.sheet(1, 8, 3);
        x.feed(0x2020, 2);
        x.image();
        return x;
    }

    /** Makes all of it other, but for the sheets and the tape. */
    private static void overThrow(MeltPins x) {
        x.wipe();
        read(x, "told 9;told 9;1 to 2 by 4;2 to 3 by 5;3 to 0 by 6;1 to 0 by 7");
        for (int place = 0; place < 4; place++) {
            for (int what = 1; what <= 6; what++) x.change(place, what, 8);
            x.change(place, 7, place == 3 ? 2 : 3);
            x.step(place);
            x.hold(place, place != 0);
        }
        x.cut(0, 1);
        x.tie(1, 0, 9);
        x.clear();
        for (int i = 0; i < 4; i++) x.push(9 + i, 3);
        for (int spot = 0; spot < 10; spot++) x.spot(spot, spot == 2 ? -1 : 3);
        x.century(3);
        x.feed(0x2020, 2);
    }

    @Says(promise = 42, words = "It becomes what was kept latest (which stays): how many PLACES.")
    static void undo() {
        MeltPins x = new MeltPins();
        x.image();
        due(x.undo(), 0);
        read(x, "place 1;place 2");
        due(x.undo(), 0);
        due(x.count(0), 0);
        for (int i = 1; i <= 12; i++) {
            read(x, "place " + i);
            x.image();
            due(x.undo(), i);
        }
        for (int i = 0; i < 3; i++) {
            due(x.change(11, 1, 99), 12);
            due(x.hold(11, true), 0);
            due(x.undo(), 12);
            due(x.placeOf(11, 1), 12);
        }
        // What is changed behind image() or undo() is not what is kept.
        x.image();
        x.change(0, 1, 50);
        x.undo();
        x.change(0, 1, 60);
        due(x.undo(), 12);
        due(x.placeOf(0, 1), 1);
        due(x.status(-1), 0);
        // A kept one of fewer places: what is above them is none any more, in sets and as a place.
        x = of("place 1");
        x.image();
        read(x, "place 1;0 to 1 by 1");
        x.push(0, 1);
        x.spot(0, 1);
        due(x.undo(), 1);
        due(x.placeOf(1, 0), BEYOND);
        due(x.stand(2), BEYOND);
        due(x.stand(1), 1);
        due(x.late(1), 1);
        due(x.count(1), 0);
        due(x.as(0, 0), MISSING);
        due(read(x, "place 1"), 2);
        due(x.tieOf(0, 1), 0);
        due(x.stand(1), 1);
        due(x.run(9, 0), 0);
    }

    @Says(promise = 42, words = "NONE: nothing is kept.")
    static void undoNone() {
        refused(Check::empty, x -> x.undo(), NONE);
        refused(Check::forty, x -> x.undo(), NONE);
        refused(() -> {
            MeltPins x = keptTwo();
            x.tear();
            return x;
        }, x -> x.undo(), NONE);
        takes(SheetSentences::keptTwo, x -> x.undo());
    }

    @Says(promise = 43, words = "Nothing is kept: 1 if something was, else 0.")
    static void tear() {
        MeltPins x = new MeltPins();
        due(x.tear(), 0);
        x.image();
        due(x.tear(), 1);
        due(x.tear(), 0);
        x.image();
        x.image();
        due(x.undo(), 0);
        due(x.tear(), 1);
        due(x.tear(), 0);
        due(x.status(-1), 0);
        due(x.undo(), NONE);
        // Nothing else goes by it.
        same(() -> {
            MeltPins m = forty();
            m.push(0, 0);
            m.spot(0, 0);
            m.hold(3, true);
            m.seed(4);
            return m;
        }, m -> { }, m -> {
            m.image();
            due(m.tear(), 1);
        });
    }

    // ---- count

    @Says(promise = 44, words = "0 PLACES, 1 TIES, 2 PUSHES of THE PLAN, 3 HELD ones, 4 bytes of THE TAPE, 5 z, 6 SPOTS that hold something.")
    static void count() {
        int[] none = {0, 0, 0, 0, 0, 1, 0};
        MeltPins x = new MeltPins();
        for (int what = 0; what <= 6; what++) due(x.count(what), none[what]);
        int[] most = {12, 40, 20, 0, 120, 1, 10};
        x = full();
        for (int what = 0; what <= 6; what++) due(x.count(what), most[what]);
        for (int place = 0; place < 12; place++) {
            due(x.count(3), place);
            x.hold(place, true);
        }
        due(x.count(3), 12);
        x = of("place 1;place 1;place 1;0 to 1 by 9;1 to 2 by 9");
        x.push(0, 0);
        x.push(0, 1);
        x.push(0, 2);
        x.push(1, 2);
        x.hold(1, true);
        x.feed(0, 4);
        x.feed(0, 2);
        x.seed(SIZE);
        for (int spot = 0; spot < 5; spot++) x.spot(2 * spot, 2);
        int[] some = {3, 2, 4, 1, 6, SIZE, 5};
        for (int what = 0; what <= 6; what++) due(x.count(what), some[what]);
        for (int z : new int[] {MIN, MAX, BEYOND}) {
            x.seed(z);
            due(x.count(5), z);
        }
        due(x.status(-1), 0);
    }

    @Says(promise = 44, words = "BEYOND: another what.")
    static void countBeyond() {
        taken(Check::empty, (x, v) -> x.count(v), 0, 6);
        taken(Check::full, (x, v) -> x.count(v), 0, 6);
    }

    // ---- status

    @Says(promise = 45, words = "How many acts answered a finding ever (undo() takes none back): which -1: all, 0 to 6: BEYOND to SIZE.")
    static void status() {
        MeltPins x = new MeltPins();
        for (int which = -1; which <= 6; which++) due(x.status(which), 0);
        x = full();
        int[] told = {3, 5, 2, 6, 4, 7, 1};
        for (int i = 0; i < told[0]; i++) due(x.stand(-1), BEYOND);
        for (int i = 0; i < told[1]; i++) due(x.feed(0, 1), FULL);
        for (int i = 0; i < told[2]; i++) due(x.as(0, 1), KIND);
        for (int i = 0; i < told[3]; i++) due(x.cut(0, 0), NONE);
        for (int i = 0; i < told[4]; i++) due(x.push(0, 5), STATE);
        for (int i = 0; i < told[5]; i++) due(x.judge(3), MISSING);
        for (int i = 0; i < told[6]; i++) due(x.sheet(0, 0, -9), SIZE);
        for (int which = 0; which <= 6; which++) due(x.status(which), told[which]);
        due(x.status(-1), 28);
        // Neither undo() nor another act takes one back; a FAULT, a z and a -1 are none.
        due(x.undo(), 12);
        due(x.status(-1), 28);
        due(x.world(), -1);
        due(x.seed(NONE), 1);
        due(x.count(5), NONE);
        due(x.seed(1), NONE);
        due(x.placeOf(0, 7), -1);
        for (int place = 0; place < 12; place++) x.hold(place, true);
        due(x.game(1, 1), -1);
        due(x.tear(), 1);
        x.image();
        due(x.status(-1), 28);
        due(x.stand(4096), BEYOND);
        due(x.undo(), 12);
        due(x.status(0), 4);
        due(x.status(-1), 29);
    }

    @Says(promise = 45, words = "BEYOND (counted from then on): another one.")
    static void statusBeyond() {
        MeltPins x = new MeltPins();
        int[] others = {-2, 7, MIN, MAX, 8, -3};
        for (int i = 0; i < others.length; i++) {
            due(x.status(others[i]), BEYOND);
            due(x.status(0), i + 1);
            due(x.status(-1), i + 1);
        }
        for (int which = 1; which <= 6; which++) due(x.status(which), 0);
        taken(Check::full, (m, v) -> m.status(v), -1, 6);
    }
}
