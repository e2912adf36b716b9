import java.lang.reflect.Method;

/** For each promise, by its number, what the document asks, worked out by hand. */
public final class PromisesTest extends Check {

    public static void main(String[] args) throws Exception {
        for (int n = 1; n <= 45; n++) {
            Method m = PromisesTest.class.getDeclaredMethod("promise" + n);
            begin(m.getName());
            m.invoke(null);
        }
        if (tell("45 promises") != 0) System.exit(1);
    }

    static void promise1() {
        MeltPins x = new MeltPins();
        for (int what = 0; what <= 4; what++) due(x.count(what), 0);
        due(x.count(5), 1);
        due(x.count(6), 0);
        for (int which = -1; which <= 6; which++) due(x.status(which), 0);
        due(x.undo(), NONE);
        due(x.tear(), 0);
        due(x.placeOf(0, 0), BEYOND);
        for (int s = 0; s < 4; s++) due(x.write(s, 0, 0), MISSING);
        for (int s = 0; s < 10; s++) due(x.as(s, 0), MISSING);
    }

    static void promise2() {
        MeltPins x = new MeltPins();
        due(x.feed(0, 0), BEYOND);
        due(x.feed(0, 5), BEYOND);
        due(x.feed(0, MIN), BEYOND);
        due(x.feed(0, MAX), BEYOND);
        due(x.count(4), 0);
        due(x.feed(0x7f737461, 3), 3);          // sta
        due(x.feed(0xffff7920, 2), 5);          // y, blank
        due(x.feed(0x80000037, 1), 6);          // 7
        due(x.feed(0x3b706c61, 4), 10);         // ;pla
        due(x.feed(0x63652038, 4), 14);         // ce 8
        due(x.world(), 2);
        due(x.placeOf(0, 0), 1);
        due(x.placeOf(0, 1), 7);
        due(x.placeOf(1, 0), 0);
        due(x.placeOf(1, 1), 8);
        for (int i = 1; i <= 29; i++) due(x.feed(-1, 4), 4 * i);
        due(x.feed(0, 2), 118);
        due(x.feed(0, 3), FULL);
        due(x.feed(0, 4), FULL);
        due(x.count(4), 118);
        due(x.feed(0, 2), 120);
        due(x.feed(0, 1), FULL);
        due(x.feed(0, 5), BEYOND);
        due(x.count(4), 120);
        due(x.status(1), 3);
    }

    static void promise3() {
        MeltPins x = new MeltPins();
        due(x.wipe(), 0);
        x.feed(0x61626364, 4);
        x.feed(0x61, 1);
        due(x.wipe(), 5);
        due(x.count(4), 0);
        due(x.wipe(), 0);
        due(x.world(), -1);
    }

    static void promise4() {
        due(fault(""), -1);
        due(fault("   "), -4);
        due(fault("ice 5"), -1);
        due(fault("  ice 5"), -3);
        due(fault("lower 5"), -1);
        due(fault(";"), -1);
        due(fault("Place 5"), -1);
        due(fault("places 5"), -1);
        due(fault("plac 5"), -1);
        due(fault("ploce 5"), -1);
        due(fault("slace 5"), -1);
        due(fault("placez 5"), -1);
        due(fault("aplace 5"), -1);
        due(fault("place 5place 5"), -8);
        due(fault("place"), -6);
        due(fault("place  "), -8);
        due(fault("place;"), -6);
        due(fault("place five"), -7);
        due(fault("place 0"), -7);
        due(fault("place 100"), -7);
        due(fault("place 10000"), -7);
        due(fault("place 4294967297"), -7);
        due(fault("place 18446744073709551617"), -7);
        due(fault("place 5 place 5"), -9);
        due(fault("place 5 5"), -9);
        due(fault("place 5,"), -8);
        due(fault("place 5\tcost 3"), -8);
        due(fault("place\n5"), -6);
        due(fault("place 5\u00e9"), -8);
        due(fault("place 0#"), -7);
        due(fault("place 5;"), -9);
        due(fault("place 5; "), -10);
        due(fault("place 5;;place 5"), -9);
        due(fault("place 5 spoils 1"), -9);
        due(fault("place 5 steps 1"), -9);
        due(fault("place 5 bar 1"), -9);
        due(fault("place 5 lower"), -14);
        due(fault("place 5 lower 100"), -15);
        due(fault("place 5 takes 10"), -15);
        due(fault("place 5 cost 0"), -14);
        due(fault("place 5 cost 100"), -14);
        due(fault("place 5 price 0"), -15);
        due(fault("place 5 price 100"), -15);
        due(fault("place 5 chance 11"), -16);
        // Tapes that are full to the last byte, with letters, digits, blanks; and one that is a text.
        due(fault("a".repeat(120)), -1);
        due(fault("place 5 " + "c".repeat(112)), -9);
        due(fault("place " + "7".repeat(114)), -7);
        due(fault("place 5" + " ".repeat(112) + ";"), -121);
        MeltPins full = new MeltPins();
        due(read(full, "place " + "0".repeat(113) + "7"), 1);
        due(full.placeOf(0, 1), 7);
        due(read(full, "place 5" + " ".repeat(113)), 2);
        MeltPins x = new MeltPins();
        due(read(x, "place 1;stay 2;back 3;company 4;drown 5;part 6;told 99 "), 7);
        for (int kind = 0; kind < 7; kind++) {
            int bar = kind == 6 ? 99 : kind + 1;
            int[] row = {kind, bar, 0, 0, 1, 1, 0, -1, 0};
            for (int what = 0; what <= 8; what++) due(x.placeOf(kind, what), row[what]);
        }
        due(read(x, "stay5lower99takes9cost99price99chance10;back 0001 cost 4 cost 7 lower 3 cost 1 lower 0"), 9);
        int[] row = {1, 5, 99, 9, 99, 99, 10};
        for (int what = 0; what <= 6; what++) due(x.placeOf(7, what), row[what]);
        due(x.placeOf(8, 1), 1);
        due(x.placeOf(8, 2), 0);
        due(x.placeOf(8, 4), 1);
        tieTexts(x);
        fullTexts();
    }

    private static void tieTexts(MeltPins x) {
        due(read(x, "9 to 0 by 1"), -1);
        due(read(x, "0 by 1"), -3);
        due(read(x, "0 zo 1 by 1"), -3);
        due(read(x, "0"), -2);
        due(read(x, "0;1"), -2);
        due(read(x, "0 to by 1"), -6);
        due(read(x, "0 to 1;"), -7);
        due(read(x, "0 to 1 by by"), -11);
        due(read(x, "0 to"), -5);
        due(read(x, "0 to 0 by 1"), -6);
        due(read(x, "0 to 9 by 1"), -6);
        due(read(x, "0 to 1 to 2"), -8);
        due(read(x, "0 to 1 by"), -10);
        due(read(x, "0 to 1 by 0"), -11);
        due(read(x, "0 to 1 by 100"), -11);
        due(read(x, "0 to 1 by 5 cost 3"), -13);
        due(read(x, "0 to 1 by 5;0 to 1 by 5"), -18);
        due(read(x, "0 to 9 by 5;place 1"), -6);
        due(read(x, "place 1;0 to 9 by 5;10 to 0 by 1"), -21);
        due(x.count(0), 9);
        due(x.count(1), 0);
        due(read(x, "place 1;9 to 0 by 99;0to9by1;0 to 1 by 7"), 10);
        due(x.tieOf(9, 0), 99);
        due(x.tieOf(0, 9), 1);
        due(x.tieOf(0, 1), 7);
        due(x.count(1), 3);
        due(read(x, "1 to 0 by 3;0 to 1 by 3"), -18);
        due(x.tieOf(1, 0), 0);
        due(read(x, "1 to 0 by 3"), 10);
        due(x.count(1), 4);
    }

    private static void fullTexts() {
        MeltPins x = twelve();
        due(read(x, "0 to 1 by 1;place 1"), -13);
        due(read(x, "0 to 1 by 1; told"), -14);
        due(x.count(1), 0);
        x = forty();
        due(x.count(1), 40);
        due(read(x, "11 to 0 by 1"), -1);
        due(read(x, "5 to 0 by 1"), -1);
        x.cut(0, 11);
        due(read(x, "11 to 0 by 1; 11 to 1 by 1"), -15);
        due(read(x, "11 to 0 by 1"), 12);
        due(x.count(1), 40);
    }

    static void promise5() {
        MeltPins x = of("stay 9 lower 2 takes 3 cost 4 price 5 chance 6; told 9;told 1;part 25; company 7; back 8;drown 6");
        int[] row = {1, 9, 2, 3, 4, 5, 6, -1, 0, 9, 0};
        for (int what = 0; what <= 10; what++) due(x.placeOf(0, what), row[what]);
        due(x.placeOf(1, 9), 4);
        due(x.placeOf(2, 9), 1);
        due(x.placeOf(3, 9), 25);
        due(x.placeOf(4, 9), 7);
        due(x.placeOf(5, 9), 8);
        due(x.placeOf(6, 9), 6);
        int[] heights = {15, 5, 1, 1};
        for (int i = 0; i < 4; i++) {
            x.step(3);
            due(x.placeOf(3, 8), i + 1);
            due(x.placeOf(3, 9), heights[i]);
            due(x.placeOf(3, 1), 25);
        }
        for (int place : new int[] {0, 1, 4, 5, 6}) x.step(place);
        due(x.placeOf(0, 9), 9);
        due(x.placeOf(1, 9), 4);
        due(x.placeOf(4, 9), 7);
        due(x.placeOf(5, 9), 8);
        x.hold(3, true);
        due(x.placeOf(3, 10), 1);
        due(x.placeOf(2, 10), 0);
        due(x.placeOf(-1, 0), BEYOND);
        due(x.placeOf(7, 0), BEYOND);
        due(x.placeOf(0, -1), BEYOND);
        due(x.placeOf(0, 11), BEYOND);
        due(x.placeOf(MAX, MIN), BEYOND);
        due(x.status(0), 5);
    }

    static void promise6() {
        MeltPins x = of("place 5;place 6;place 7");
        int[] was = {0, 6, 0, 0, 1, 1, 0, -1};
        int[] low = {0, 1, 0, 0, 1, 1, 0, -1};
        int[] high = {0, 99, 99, 9, 99, 99, 10, 2};
        for (int what = 1; what <= 7; what++) {
            due(x.change(1, what, low[what] - 1), BEYOND);
            due(x.change(1, what, high[what] + 1), BEYOND);
            due(x.change(1, what, MIN), BEYOND);
            due(x.change(1, what, MAX), BEYOND);
            due(x.placeOf(1, what), was[what]);
            due(x.change(1, what, high[what]), was[what]);
            due(x.change(1, what, low[what]), high[what]);
            due(x.placeOf(1, what), low[what]);
            due(x.change(1, what, was[what]), low[what]);
        }
        due(x.change(1, 7, 1), BEYOND);
        due(x.change(1, 7, 0), -1);
        due(x.change(1, 7, 0), 0);
        due(x.change(1, 0, 1), BEYOND);
        due(x.change(1, 8, 1), BEYOND);
        due(x.change(1, -1, 1), BEYOND);
        due(x.change(3, 1, 1), BEYOND);
        due(x.change(-1, 1, 1), BEYOND);
        due(x.placeOf(0, 1), 5);
        due(x.placeOf(2, 1), 7);
        x = twelve();
        due(x.change(0, 7, 11), -1);
        due(x.change(0, 7, 12), BEYOND);
    }

    static void promise7() {
        MeltPins x = of("part 99;place 1");
        due(x.placeOf(0, 8), 0);
        for (int i = 1; i <= 9; i++) due(x.step(0), i);
        due(x.step(0), FULL);
        due(x.placeOf(0, 8), 9);
        due(x.placeOf(0, 9), 9);
        due(x.step(1), 1);
        due(x.step(2), BEYOND);
        due(x.step(-1), BEYOND);
        due(x.status(1), 1);
    }

    static void promise8() {
        MeltPins x = of("place 1;place 1;place 1");
        due(x.tie(0, 0, 1), BEYOND);
        due(x.tie(-1, 0, 1), BEYOND);
        due(x.tie(0, -1, 1), BEYOND);
        due(x.tie(3, 0, 1), BEYOND);
        due(x.tie(0, 3, 1), BEYOND);
        due(x.tie(0, 1, 0), BEYOND);
        due(x.tie(0, 1, 100), BEYOND);
        due(x.tie(0, 1, MIN), BEYOND);
        due(x.count(1), 0);
        due(x.tie(0, 1, 99), 0);
        due(x.tie(0, 1, 1), 99);
        due(x.count(1), 1);
        due(x.tieOf(0, 1), 1);
        due(x.tieOf(1, 0), 0);
        x = forty();
        due(x.tie(5, 6, 1), FULL);
        due(x.tie(5, 6, 100), BEYOND);
        due(x.tie(5, 5, 1), BEYOND);
        due(x.tieOf(5, 6), 0);
        due(x.tie(0, 11, 9), 5);
        due(x.count(1), 40);
        x.cut(0, 11);
        due(x.tie(5, 6, 1), 0);
        due(x.count(1), 40);
    }

    static void promise9() {
        MeltPins x = of("place 1;place 1;1 to 0 by 42");
        due(x.tieOf(1, 0), 42);
        due(x.tieOf(0, 1), 0);
        due(x.tieOf(0, 0), 0);
        due(x.tieOf(2, 0), BEYOND);
        due(x.tieOf(0, 2), BEYOND);
        due(x.tieOf(-1, 0), BEYOND);
        due(x.tieOf(0, -1), BEYOND);
    }

    static void promise10() {
        MeltPins x = of("place 1;place 1;1 to 0 by 42;0 to 1 by 3");
        due(x.cut(2, 0), BEYOND);
        due(x.cut(0, 2), BEYOND);
        due(x.cut(-1, 0), BEYOND);
        due(x.cut(0, -1), BEYOND);
        due(x.cut(0, 0), NONE);
        due(x.cut(1, 0), 1);
        due(x.tieOf(1, 0), 0);
        due(x.tieOf(0, 1), 3);
        due(x.cut(1, 0), NONE);
        due(x.cut(0, 1), 0);
        due(x.cut(0, 1), NONE);
        due(x.count(1), 0);
        due(x.status(3), 3);
    }

    static void promise11() {
        MeltPins x = of("place 1;place 1;0 to 1 by 1");
        due(x.hold(2, true), BEYOND);
        due(x.hold(-1, false), BEYOND);
        due(x.hold(1, false), 0);
        due(x.hold(1, true), 0);
        due(x.hold(1, true), 1);
        due(x.count(3), 1);
        due(x.stand(1), 1);
        due(x.hold(0, true), 0);
        due(x.count(3), 2);
        due(x.hold(1, false), 1);
        due(x.placeOf(0, 10), 1);
        due(x.stand(3), 2);
        due(x.hold(0, false), 1);
        due(x.stand(1), 3);
    }

    static void promise12() {
        MeltPins x = of("place 1;place 1");
        due(x.push(-1, 0), BEYOND);
        due(x.push(50, 0), BEYOND);
        due(x.push(0, 2), BEYOND);
        due(x.push(0, -1), BEYOND);
        due(x.push(49, 1), 1);
        due(x.push(49, 1), STATE);
        due(x.push(49, 0), 2);
        due(x.push(0, 1), 3);
        for (int i = 4; i <= 20; i++) due(x.push(i, 0), i);
        due(x.push(1, 0), FULL);
        due(x.push(4, 0), STATE);
        due(x.push(4, 2), BEYOND);
        due(x.count(2), 20);
        x.clear();
        due(x.push(1, 0), 1);
    }

    static void promise13() {
        MeltPins x = of("place 1;place 1");
        due(x.pushOf(0, 0), BEYOND);
        x.push(7, 1);
        x.push(3, 0);
        due(x.pushOf(0, 0), 7);
        due(x.pushOf(0, 1), 1);
        due(x.pushOf(1, 0), 3);
        due(x.pushOf(1, 1), 0);
        due(x.pushOf(2, 0), BEYOND);
        due(x.pushOf(-1, 0), BEYOND);
        due(x.pushOf(0, 2), BEYOND);
        due(x.pushOf(0, -1), BEYOND);
    }

    static void promise14() {
        MeltPins x = of("place 1;place 1");
        due(x.clear(), 0);
        x.push(0, 1);
        x.push(0, 0);
        due(x.clear(), 2);
        due(x.count(2), 0);
        due(x.run(9, 0), 0);
        due(x.pushOf(0, 0), BEYOND);
        due(x.clear(), 0);
    }

    static void promise15() {
        MeltPins x = of("place 5;place 5 takes 2;0 to 1 by 5");
        x.push(0, 0);
        int[] over = {0, 1, 1, 3, 3};
        for (int n = 0; n < 5; n++) due(x.run(n, 0), over[n]);
        due(x.run(99, 0), 3);
        due(x.run(99, 1), 0);
        due(x.run(100, 0), BEYOND);
        due(x.run(-1, 0), BEYOND);
        due(x.run(0, 2), BEYOND);
        due(x.run(0, -1), BEYOND);
        x.change(1, 1, 6);
        due(x.run(99, 0), 1);
        x.push(49, 1);
        due(x.run(49, 0), 1);
        due(x.run(50, 0), 3);
        runFalls();
        runCompany();
        runDrown();
        runPart();
        x = of("place 1;place 1;0 to 1 by 1");
        x.push(0, 0);
        x.push(2, 1);
        x.hold(1, true);
        due(x.run(9, 0), 1);
        x.hold(0, true);
        due(x.run(9, 0), 0);
    }

    private static void runFalls() {
        MeltPins x = of("back 9 lower 1;place 5 takes 2;0 to 1 by 5");
        x.push(0, 0);
        due(x.run(1, 0), 1);
        due(x.run(2, 0), 0);
        due(x.run(9, 0), 0);
        x.push(1, 0);
        due(x.run(2, 0), 1);
        due(x.run(3, 0), 2);
        x.push(2, 0);
        due(x.run(3, 0), 3);
        due(x.run(4, 0), 2);
        x = of("back 9;place 9;0 to 1 by 5");
        x.push(0, 0);
        due(x.run(99, 0), 1);
        // It falls in its year by what is over then: two that hold up one another fall at once.
        x = of("back 9 lower 5;back 9 lower 5;0 to 1 by 5;1 to 0 by 4");
        x.push(0, 0);
        x.push(0, 1);
        due(x.run(1, 0), 3);
        due(x.run(2, 0), 2);
        due(x.run(3, 0), 0);
        // None but BACK ones and PART ones fall.
        x = of("place 9 lower 9;stay 9 lower 9;company 9 lower 9;drown 9 lower 9;told 9 lower 9", "part 9 lower 9;back 9 lower 9");
        for (int place = 0; place < 7; place++) x.push(0, place);
        due(x.run(1, 0), 127);
        due(x.run(2, 0), 31);
    }

    private static void runCompany() {
        MeltPins x = of("place 9;place 9;company 5;0 to 2 by 9;1 to 2 by 1");
        x.push(0, 0);
        due(x.run(9, 0), 1);
        x.push(3, 1);
        due(x.run(3, 0), 1);
        due(x.run(4, 0), 7);
        x.change(2, 1, 11);
        due(x.run(9, 0), 3);
        x.change(2, 1, 10);
        due(x.run(9, 0), 7);
        x.cut(1, 2);
        x.change(2, 1, 9);
        due(x.run(9, 0), 3);
        // Who is beside it without a TIE is no company.
        x = of("place 9;place 9;company 5;1 to 2 by 9");
        x.push(0, 0);
        x.push(0, 1);
        due(x.run(9, 0), 3);
        x = of("place 9;told 9;0 to 1 by 4;stay 4;0 to 2 by 4");
        x.push(0, 0);
        due(x.run(1, 0), 7);
        x.tie(0, 1, 3);
        due(x.run(9, 0), 5);
    }

    private static void runDrown() {
        MeltPins x = of("drown 9;place 9;stay 1 takes 9;1 to 2 by 1;2 to 1 by 9");
        x.change(0, 7, 1);
        x.push(0, 1);
        x.push(3, 0);
        x.push(4, 1);
        due(x.run(3, 0), 2);
        due(x.run(3, 1), 0);
        due(x.run(4, 0), 1);
        due(x.run(4, 1), 2);
        due(x.run(9, 0), 1);
        x.push(20, 2);
        due(x.run(30, 0), 5);
        due(x.run(30, 1), 2);
        x.change(0, 7, -1);
        due(x.run(30, 0), 7);
        due(x.run(30, 1), 0);
        // Both at once, and a place that comes to be over in that year.
        x = of("drown 9;drown 9;place 1;0 to 2 by 1");
        x.change(0, 7, 1);
        x.change(1, 7, 0);
        x.push(0, 0);
        x.push(0, 1);
        due(x.run(1, 0), 4);
        due(x.run(1, 1), 3);
        x.change(0, 7, 2);
        due(x.run(1, 0), 2);
        due(x.run(1, 1), 5);
        // One year apart, the second is pushed in vain.
        x = of("drown 9;drown 9");
        x.change(0, 7, 1);
        x.change(1, 7, 0);
        x.push(0, 0);
        x.push(1, 1);
        due(x.run(2, 0), 1);
        due(x.run(2, 1), 2);
        // Only a DROWN one drowns, also one that comes to be over by its ties; a HELD one is drowned, too.
        x = of("stay 9;drown 1 takes 1;place 9;0 to 1 by 1");
        x.change(0, 7, 2);
        x.change(1, 7, 2);
        x.hold(2, true);
        x.push(0, 0);
        due(x.run(1, 1), 0);
        due(x.run(2, 1), 4);
        due(x.run(2, 0), 3);
    }

    private static void runPart() {
        MeltPins x = of("place 9;part 30 lower 5;0 to 1 by 20");
        x.push(0, 1);
        due(x.run(1, 0), 2);
        due(x.run(2, 0), 0);
        x.step(1);
        due(x.run(9, 0), 2);
        x.clear();
        x.push(0, 0);
        due(x.run(9, 0), 3);
        // As much as its LOWER is enough.
        x = of("place 9;part 30 lower 5;back 30 lower 5;0 to 1 by 5;0 to 2 by 5");
        for (int place = 0; place < 3; place++) x.push(0, place);
        due(x.run(9, 0), 7);
        x.tie(0, 1, 4);
        due(x.run(9, 0), 5);
        x.tie(0, 2, 4);
        due(x.run(9, 0), 1);
    }

    static void promise16() {
        MeltPins x = of("back 9 lower 1;place 5 takes 2;place 9;0 to 1 by 5;2 to 1 by 60");
        x.push(0, 0);
        x.push(1, 0);
        due(x.runOf(0, 1, 0), 0);
        due(x.runOf(0, 1, 1), 0);
        due(x.runOf(1, 1, 0), 1);
        due(x.runOf(1, 1, 1), 5);
        due(x.runOf(2, 1, 0), 2);
        due(x.runOf(3, 1, 0), 3);
        due(x.runOf(3, 1, 1), 0);
        due(x.runOf(9, 1, 0), 3);
        due(x.runOf(9, 0, 0), 0);
        x.clear();
        x.push(0, 0);
        due(x.runOf(2, 1, 0), 2);
        due(x.runOf(3, 1, 0), 0);
        x.push(2, 1);
        due(x.runOf(3, 1, 0), 2);
        due(x.runOf(9, 1, 0), 2);
        x.push(7, 2);
        due(x.runOf(8, 1, 1), 60);
        due(x.runOf(99, 1, 1), 60);
        due(x.runOf(100, 0, 0), BEYOND);
        due(x.runOf(-1, 0, 0), BEYOND);
        due(x.runOf(0, 3, 0), BEYOND);
        due(x.runOf(0, -1, 0), BEYOND);
        due(x.runOf(0, 0, 2), BEYOND);
        due(x.runOf(0, 0, -1), BEYOND);
        // A fall takes the years away; so does drowning, and no years come to a DROWNED or a HELD one.
        x = of("back 9 lower 1;back 5 lower 1 takes 1;0 to 1 by 5;drown 9;place 1 takes 9;0 to 3 by 1");
        x.change(2, 7, 3);
        for (int year = 0; year < 9; year++) x.push(year, 0);
        x.push(4, 2);
        due(x.runOf(2, 1, 0), 2);
        due(x.runOf(9, 1, 0), 2);
        due(x.runOf(10, 1, 0), 2);
        due(x.runOf(11, 1, 0), 0);
        due(x.runOf(4, 3, 0), 4);
        due(x.runOf(5, 3, 0), 0);
        due(x.runOf(8, 3, 0), 0);
        due(x.runOf(8, 3, 1), 1);
        x.hold(1, true);
        due(x.runOf(4, 1, 0), 0);
        due(x.runOf(4, 1, 1), 5);
        x = of("place 1 takes 9;drown 9;place 9;2 to 0 by 1");
        x.change(1, 7, 0);
        x.push(0, 2);
        x.push(4, 1);
        due(x.runOf(4, 0, 0), 4);
        due(x.runOf(5, 0, 0), 0);
    }

    static void promise17() {
        MeltPins x = chain();
        x.push(0, 0);
        int[] years = {1, 10, 20, 30, 40, 50};
        for (int place = 0; place < 6; place++) due(x.when(place), years[place]);
        x.clear();
        x.push(49, 0);
        due(x.when(0), 50);
        due(x.when(5), 99);
        due(x.run(98, 0), 31);
        due(x.run(99, 0), 63);
        read(x, "place 1;5 to 6 by 1");
        due(x.when(6), NONE);
        due(x.when(7), BEYOND);
        due(x.when(-1), BEYOND);
        x.clear();
        due(x.when(0), NONE);
        // The first time, though it falls then.
        x = of("back 9 lower 1");
        x.push(3, 0);
        x.push(7, 0);
        due(x.when(0), 4);
        // Over and drowned in one year: never over behind it.
        x = of("drown 9;place 9");
        x.change(0, 7, 1);
        x.push(0, 0);
        x.push(0, 1);
        due(x.when(1), NONE);
        due(x.when(0), 1);
    }

    static void promise18() {
        MeltPins x = of("back 9 lower 1;place 1;drown 1 takes 4;0 to 1 by 1;1 to 2 by 1");
        due(x.settles(), 0);
        x.push(0, 0);
        due(x.settles(), 6);
        x.push(49, 0);
        due(x.settles(), 51);
        // A place drowned that wasn't over: none is over otherwise than ahead, but one is drowned.
        x = of("drown 9;place 9;place 9");
        x.change(0, 7, 1);
        x.push(0, 0);
        due(x.settles(), 1);
        x.push(4, 2);
        due(x.settles(), 5);
        x = of("place 1;back 1 lower 1;back 1 lower 1;1 to 2 by 1;2 to 1 by 1");
        x.push(0, 1);
        due(x.run(1, 0), 6);
        due(x.settles(), 1);
        x = threeInTurn();
        x.push(0, 0);
        int[] over = {0, 3, 6, 5, 3, 6, 5};
        for (int n = 0; n <= 6; n++) due(x.run(n, 0), over[n]);
        due(x.run(99, 0), 5);
        due(x.settles(), 99);
        due(new MeltPins().settles(), 0);
    }

    static void promise19() {
        MeltPins x = chain();
        x.push(0, 5);
        due(x.stand(1), 7);
        due(x.stand(0), 0);
        due(x.stand(2), 14);
        due(x.stand(63), 63);
        due(x.stand(64), BEYOND);
        due(x.stand(-1), BEYOND);
        due(x.stand(MIN), BEYOND);
        due(x.stand(MAX), BEYOND);
        x.hold(1, true);
        due(x.stand(1), 1);
        due(x.stand(2), 0);
        due(x.count(2), 1);
        // Over behind 24 YEARS, not behind 23.
        x = of("place 1;place 1 takes 9;place 1 takes 9;place 1 takes 3;0 to 1 by 1;1 to 2 by 1;2 to 3 by 1");
        due(x.stand(1), 15);
        x.change(3, 3, 4);
        due(x.stand(1), 7);
        x = threeInTurn();
        due(x.stand(1), 5);
        due(x.stand(2), 3);
        due(x.stand(7), 7);
        due(new MeltPins().stand(0), 0);
        due(new MeltPins().stand(1), BEYOND);
    }

    static void promise20() {
        MeltPins x = of("place 1;place 1 takes 9;place 1 takes 9;place 1 takes 3;0 to 1 by 1;1 to 2 by 1;2 to 3 by 1");
        due(x.late(1), 24);
        due(x.late(15), 1);
        due(x.late(5), 10);
        due(x.late(2), NONE);
        x.change(3, 3, 4);
        due(x.late(1), NONE);
        due(x.late(16), BEYOND);
        due(x.late(-1), BEYOND);
        x.push(0, 0);
        due(x.late(0), NONE);
        // The first time, though they fall then.
        x = of("back 9 lower 1;back 1 lower 1;0 to 1 by 1");
        due(x.late(1), 1);
        due(x.stand(1), 0);
        x.hold(1, true);
        due(x.late(3), NONE);
        due(new MeltPins().late(0), 1);
    }

    /** Place 0 brings all, and so do 1 and 2 together. */
    private static MeltPins twoWays(int cost) {
        MeltPins x = of("place 5;place 1 cost 2;place 1 cost 3;0 to 1 by 1;0 to 2 by 1", "1 to 0 by 2;2 to 0 by 3");
        x.change(0, 4, cost);
        return x;
    }

    static void promise21() {
        MeltPins x = twoWays(99);
        due(x.fewest(0), 1);
        due(x.fewest(1), 1);
        due(x.fewest(2), 99);
        due(x.fewest(3), BEYOND);
        due(x.fewest(-1), BEYOND);
        x.tie(2, 0, 5);
        due(x.fewest(0), 4);
        due(x.fewest(2), 3);
        x.change(0, 4, 3);
        due(x.fewest(0), 1);
        x.tie(1, 0, 5);
        due(x.fewest(0), 2);
        due(x.fewest(2), 2);
        x.hold(1, true);
        due(x.fewest(0), NONE);
        due(x.fewest(2), NONE);
        due(x.fewest(3), BEYOND);
        due(x.status(3), 2);
        x = twelve();
        due(x.fewest(0), 4095);
        due(x.fewest(1), 12);
        due(x.fewest(2), 12);
        due(new MeltPins().fewest(0), 0);
    }

    static void promise22() {
        MeltPins x = twoWays(99);
        due(x.cheapest(0), 6);
        due(x.cheapest(1), 2);
        due(x.cheapest(2), 5);
        x.change(0, 4, 6);
        due(x.cheapest(0), 6);
        x.change(0, 4, 5);
        due(x.cheapest(0), 1);
        due(x.cheapest(1), 1);
        due(x.cheapest(2), 5);
        due(x.cheapest(3), BEYOND);
        due(x.cheapest(-1), BEYOND);
        x.change(0, 4, 4);
        x.change(2, 4, 4);
        x.tie(2, 0, 5);
        due(x.cheapest(0), 1);
        x.hold(0, true);
        due(x.cheapest(1), NONE);
        due(x.cheapest(3), BEYOND);
        x = twelve();
        for (int place = 0; place < 12; place++) x.change(place, 4, 99);
        due(x.cheapest(0), 4095);
        due(x.cheapest(2), 1188);
        due(new MeltPins().cheapest(1), 0);
    }

    static void promise23() {
        MeltPins x = of("place 9;place 1;place 1;place 9;1 to 2 by 1;3 to 1 by 1");
        due(x.most(0, 0), 0);
        due(x.most(0, 1), 0);
        due(x.most(1, 0), 8);
        due(x.most(1, 1), 3);
        due(x.most(2, 0), 9);
        due(x.most(2, 1), 4);
        due(x.most(3, 0), 11);
        due(x.most(4, 0), 15);
        due(x.most(5, 0), NONE);
        due(x.most(5, 2), BEYOND);
        due(x.most(1, 2), BEYOND);
        due(x.most(1, -1), BEYOND);
        due(x.most(-1, 0), BEYOND);
        x.change(3, 3, 9);
        x.hold(3, true);
        due(x.most(1, 0), 2);
        due(x.most(1, 1), 2);
        due(x.most(4, 0), 15);
        due(x.most(4, 1), 3);
        due(new MeltPins().most(1, 0), NONE);
    }

    static void promise24() {
        MeltPins x = of("place 5;place 3;told 9;part 30;0 to 1 by 3;1 to 0 by 4;0 to 2 by 2;1 to 2 by 2;0 to 3 by 20");
        due(x.must(), 1 + 8);
        x.step(3);
        due(x.must(), 1);
        x.tie(2, 0, 1);
        due(x.must(), 0);
        x.tie(1, 2, 1);
        due(x.must(), 4);
        x.hold(0, true);
        due(x.must(), 4);
        x = of("company 4;place 1;1 to 0 by 4");
        due(x.must(), 2);
        due(new MeltPins().must(), 0);
    }

    static void promise25() {
        MeltPins x = of("back 9 lower 1;place 9;1 to 0 by 1");
        due(x.order(3, 0, 0), 1);
        due(x.order(3, 0, 1), 1);
        due(x.order(3, 1, 0), 2);
        due(x.order(3, 1, 1), 1);
        due(x.order(3, 2, 0), 3);
        due(x.order(3, 2, 1), 12);
        due(x.order(3, 5, 0), 6);
        due(x.order(3, 5, 1), 12);
        due(x.order(1, 0, 0), NONE);
        due(x.order(0, 0, 0), BEYOND);
        due(x.order(4, 0, 0), BEYOND);
        due(x.order(-1, 0, 0), BEYOND);
        due(x.order(3, 6, 0), BEYOND);
        due(x.order(3, -1, 0), BEYOND);
        due(x.order(3, 0, 2), BEYOND);
        due(x.order(3, 0, -1), BEYOND);
        x.push(0, 0);
        x.push(0, 1);
        due(x.order(3, 2, 0), 3);
        x.hold(0, true);
        due(x.order(3, 2, 0), NONE);
        x = chain();
        x.change(5, 3, 8);
        due(x.order(1, 5, 0), 49);
        x.change(5, 3, 9);
        due(x.order(1, 5, 0), NONE);
        // 3 first: 4 is over behind 10, 5 behind 20; the others at 5, 10 and 15.
        due(x.order(15, 5, 0), 20);
        due(x.order(15, 5, 1), 3 * 1728 + 0 * 144 + 1 * 12 + 2);
        due(x.order(31, 5, 0), BEYOND);
        // The last places, whose digits are 10 and 11.
        x = twelve();
        for (int place = 1; place < 11; place++) x.tie(11, place, 1);
        x.tie(10, 0, 1);
        due(x.order(3072, 1, 0), 2);
        due(x.order(3072, 1, 1), 10 * 12 + 11);
        // ALL are over ahead of the last push.
        x = of("place 1;place 1;0 to 1 by 1");
        due(x.order(3, 3, 0), 1);
        due(x.order(3, 3, 1), 1);
    }

    static void promise26() {
        MeltPins x = of("place 1;place 1 price 5;place 1 price 2;0 to 1 by 1;1 to 2 by 1");
        due(x.stop(1, 0), 2);
        due(x.stop(1, 1), 5);
        due(x.stop(3, 0), 4);
        due(x.stop(3, 1), 2);
        due(x.stop(7, 0), 0);
        due(x.stop(7, 1), 0);
        due(x.stop(0, 0), 0);
        due(x.stop(8, 0), BEYOND);
        due(x.stop(-1, 0), BEYOND);
        due(x.stop(1, 2), BEYOND);
        due(x.stop(1, -1), BEYOND);
        x.hold(1, true);
        due(x.stop(1, 0), 0);
        due(x.stop(1, 1), 0);
        x.hold(1, false);
        x.tie(0, 2, 1);
        due(x.stop(1, 0), 6);
        due(x.stop(1, 1), 7);
        x.hold(2, true);
        due(x.stop(1, 0), 2);
        // 0 falls, 2 goes and falls, 1 stays: either 1 or 2 held.
        x = of("back 9 lower 1;place 1 price 4;back 1 lower 1 price 3;0 to 2 by 1;2 to 1 by 1");
        due(x.stand(1), 2);
        due(x.stop(1, 0), 4);
        due(x.stop(1, 1), 3);
        x.change(2, 5, 4);
        due(x.stop(1, 0), 2);
        x.change(2, 5, 99);
        due(x.stop(1, 0), 2);
        due(x.stop(1, 1), 4);
        // Few dear ones ahead of many cheap ones.
        x = of("place 1;place 1 price 99;place 1;place 1;0 to 1 by 1;1 to 2 by 1;1 to 3 by 1");
        due(x.stop(1, 0), 2);
        due(x.stop(1, 1), 99);
        due(x.stop(3, 0), 12);
        due(new MeltPins().stop(0, 1), 0);
    }

    static void promise27() {
        MeltPins x = of("place 1;place 9;0 to 1 by 4");
        due(x.near(1), 5);
        due(x.near(3), 0);
        due(x.near(2), NONE);
        due(x.near(4), BEYOND);
        due(x.near(-1), BEYOND);
        due(x.placeOf(1, 1), 9);
        due(x.stand(1), 1);
        x.change(1, 1, 99);
        x.tie(0, 1, 1);
        due(x.near(1), 98);
        // Each bar is less, but 1 at least; then heights by kinds.
        x = of("place 1;told 9;0 to 1 by 2");
        due(x.near(1), 4);
        x = of("place 1;part 30;place 7;0 to 1 by 8;1 to 2 by 1");
        x.step(1);
        due(x.near(1), 12);
        x.hold(2, true);
        due(x.near(7), NONE);
        due(new MeltPins().near(0), 0);
    }

    static void promise28() {
        MeltPins x = of("place 1;place 1;place 1;2 to 1 by 1");
        due(x.look(), 2);
        x.tie(1, 2, 1);
        due(x.look(), 1);
        x.hold(1, true);
        due(x.look(), 0);
        x.hold(0, true);
        due(x.look(), 2);
        x.hold(2, true);
        due(x.look(), 0);
        due(new MeltPins().look(), NONE);
    }

    static void promise29() {
        MeltPins x = of("place 1;place 3;0 to 1 by 4");
        due(x.edge(1, 1), 4);
        due(x.placeOf(1, 1), 3);
        due(x.edge(1, 0), 99);
        x.tie(0, 1, 1);
        due(x.edge(1, 1), 1);
        x.tie(0, 1, 99);
        due(x.edge(1, 1), 99);
        x.tie(0, 1, 4);
        due(x.edge(2, 1), NONE);
        due(x.edge(2, 0), NONE);
        due(x.edge(3, 1), 99);
        due(x.edge(4, 0), BEYOND);
        due(x.edge(-1, 0), BEYOND);
        due(x.edge(1, 2), BEYOND);
        due(x.edge(1, -1), BEYOND);
        due(x.edge(2, 2), BEYOND);
        x.change(1, 1, 90);
        due(x.edge(1, 1), 4);
        due(x.edge(1, 0), NONE);
        x = of("place 1;told 3;0 to 1 by 4");
        due(x.edge(1, 1), 9);
        x = of("place 1;part 3;0 to 1 by 4");
        x.step(1);
        due(x.edge(1, 1), 14);
    }

    static void promise30() {
        MeltPins x = of("place 1 chance 3;place 1 chance 4;0 to 1 by 1");
        due(x.likely(), 30);
        x.tie(1, 0, 1);
        due(x.likely(), 100 - 7 * 6);
        x.hold(0, true);
        due(x.likely(), 0);
        due(new MeltPins().likely(), 1);
        x = twelve();
        due(x.likely(), 0);
        for (int place = 0; place < 12; place++) x.change(place, 6, 10);
        due(x.likely(), 1000000000000L);
        x.change(11, 6, 9);
        due(x.likely(), 900000000000L);
        due(x.status(-1), 0);
    }

    static void promise31() {
        MeltPins x = of("place 1 chance 5");
        due(x.century(1), 1);                    // 1103527590 >>> 8 is 4310654
        due(x.count(5), 1103527590);
        x.seed(1);
        x.change(0, 6, 4);
        due(x.century(1), 0);
        due(x.count(5), 1103527590);
        due(x.century(0), BEYOND);
        due(x.century(51), BEYOND);
        due(x.century(MIN), BEYOND);
        due(x.count(5), 1103527590);
        x = of("place 9 chance 7;place 9 chance 6;place 9 chance 8");
        x.seed(-123456789);
        int z = -123456789;
        int come = 0;
        for (int time = 0; time < 50; time++) {
            boolean all = true;
            for (int chance : new int[] {7, 6, 8}) {
                z = z * 1103515245 + 12345;
                if ((z >>> 8) % 10 >= chance) all = false;
            }
            if (all) come++;
        }
        due(x.century(50), come);
        due(x.count(5), z);
        x.hold(1, true);
        due(x.century(50), 0);
        for (int i = 0; i < 150; i++) z = z * 1103515245 + 12345;
        due(x.count(5), z);
        due(new MeltPins().century(50), 50);
        // STAND counts, behind 24 YEARS.
        x = of("back 9 lower 1 chance 10");
        due(x.century(3), 0);
    }

    static void promise32() {
        MeltPins x = new MeltPins();
        due(x.seed(-1000001), 1);
        due(x.seed(7), -1000001);
        due(x.seed(MIN), 7);
        due(x.count(5), MIN);
        due(x.status(-1), 0);
    }

    static void promise33() {
        MeltPins x = of("place 1;place 1;0 to 1 by 1");
        due(x.game(1, 0), 1);
        due(x.game(1, 1), 0);
        x.hold(0, true);
        due(x.game(1, 0), 1);
        due(x.game(1, 1), 1);
        x.hold(1, true);
        due(x.game(1, 0), 0);
        due(x.game(2, 1), -1);
        due(x.game(0, 0), BEYOND);
        due(x.game(3, 0), BEYOND);
        due(x.game(1, 2), BEYOND);
        due(x.game(1, -1), BEYOND);
        x = of("place 9;place 1;place 1;place 1;3 to 1 by 1;3 to 2 by 1;3 to 0 by 9");
        due(x.game(1, 0), 3);
        due(x.game(1, 1), 3);
        due(x.game(2, 0), 2);
        due(x.game(2, 1), 0);
        x.push(0, 0);
        due(x.stand(0), 0);
        // 2 needs both of the others: the other one holds it or one of them.
        x = of("place 9;place 9;place 2;0 to 2 by 1;1 to 2 by 1;place 9;place 9");
        due(x.game(2, 0), 2);
        due(x.game(2, 1), 0);
        // All four of five are taken behind two turns each: the two pushed are over, and what the fifth gets tells.
        x = of("place 9;place 9;place 9;place 9;place 1;0 to 4 by 1;1 to 4 by 1;2 to 4 by 1;3 to 4 by 1");
        due(x.game(2, 0), 2);
        due(x.game(2, 1), 0);
        x.hold(4, true);
        due(x.game(2, 0), 2);
        // The other one can hold but two of three that come with 0, or with 4.
        x = of("place 1;place 1;place 1;place 9;place 1;0 to 1 by 1;0 to 2 by 1;0 to 4 by 1;4 to 0 by 1");
        due(x.game(1, 0), 3);
        due(x.game(1, 1), 0);
        due(x.game(2, 0), 3);
        // 0 and 3 bring both 4 and 5: in one turn one of them is held, in two turns both.
        x = of("place 9;place 9;place 9;place 9;place 9;place 9;3 to 4 by 9;3 to 5 by 9;0 to 4 by 9;0 to 5 by 9");
        due(x.game(1, 0), 2);
        due(x.game(1, 1), 0);
        due(x.game(2, 0), 2);
        due(x.game(2, 1), 0);
        // One alone is left for the one, none for the other.
        x = of("place 1");
        due(x.game(2, 0), 1);
        due(x.game(2, 1), 0);
        due(new MeltPins().game(1, 1), -1);
        due(new MeltPins().game(2, 0), 0);
    }

    static void promise34() {
        MeltPins x = of("place 1;place 1;place 1 takes 2;0 to 1 by 1;1 to 2 by 1");
        due(x.first(-1), BEYOND);
        due(x.first(4), BEYOND);
        due(x.first(0), MISSING);
        x.sheet(0, 8, 3);
        due(x.first(0), 0);
        layers(x, 1, 1, 4);
        due(x.late(1), 4);
        due(x.first(0), 1);
        layers(x, 1, 2, 4);
        due(x.first(0), NONE);
        layers(x, 1, 1, 3);
        due(x.first(0), 3);
        layers(x, 1, 1, 2);
        due(x.first(0), NONE);
        layers(x, 1, 1, 1);
        due(x.first(0), 5);
        layers(x, 0, 1, 3);
        due(x.first(0), 2);
        layers(x, 0, 1, 0);
        due(x.first(0), NONE);
        x.sheet(0, 8, 4);
        due(x.first(0), NONE);
        x.sheet(0, 8, 2);
        due(x.first(0), NONE);
        due(x.status(0), 2);
        due(x.status(5), 1);
        x.sheet(0, 16, 3);
        x.hold(1, true);
        layers(x, 1, 0, 0);
        x.push(0, 2);
        due(x.first(0), 1);
        // The least number of several of one size; first times, though they fall then; none behind 24.
        x = of("back 1 lower 1;back 1 lower 1;0 to 1 by 1;1 to 0 by 1");
        x.sheet(0, 8, 2);
        layers(x, 1, 1);
        due(x.first(0), 1);
        x = of("back 9 lower 1;back 1 lower 1;0 to 1 by 1");
        x.sheet(0, 32, 2);
        layers(x, 1, 1);
        due(x.first(0), 1);
        x = chain();
        x.sheet(0, 32, 6);
        layers(x, 1, 10, 20, 0, 0, 0);
        due(x.first(0), 1);
        layers(x, 1, 10, 20, 30, 40, 50);
        due(x.first(0), NONE);
        x = twelve();
        x.sheet(0, 8, 12);
        for (int i = 0; i < 12; i++) x.write(0, i, 1);
        due(x.first(0), 4095);
        x.write(0, 5, 0);
        due(x.first(0), 4095 - 32);
        x = of("place 1;place 1 takes 9;place 1 takes 9;place 1 takes 3;0 to 1 by 1;1 to 2 by 1;2 to 3 by 1");
        x.sheet(0, 8, 4);
        layers(x, 1, 10, 20, 24);
        due(x.first(0), 1);
        x.change(3, 3, 4);
        due(x.first(0), NONE);
        layers(x, 1, 10, 20, 0);
        due(x.first(0), 1);
        x = new MeltPins();
        x.sheet(3, 8, 0);
        due(x.first(3), 0);
    }

    private static void layers(MeltPins x, int... numbers) {
        for (int i = 0; i < numbers.length; i++) due(x.write(0, i, numbers[i]), 1);
    }

    static void promise35() {
        MeltPins x = of("place 1;place 1 takes 2;0 to 1 by 1");
        x.push(1, 0);
        due(x.judge(4), BEYOND);
        due(x.judge(-1), BEYOND);
        due(x.judge(0), MISSING);
        x.sheet(0, 8, 0);
        due(x.judge(0), 0);
        x.sheet(0, 8, 5);
        due(x.judge(0), 2);
        layers(x, 0, 1, 1, 2, 2);
        due(x.judge(0), 0);
        layers(x, 1);
        due(x.judge(0), 1);
        layers(x, 0, 1, 1, 2, 1);
        due(x.judge(0), 5);
        layers(x, 0, 2, 1, 2, 1);
        due(x.judge(0), 2);
        x.sheet(0, 32, 40);
        for (int i = 3; i < 40; i++) x.write(0, i, 2);
        layers(x, 0, 1, 1);
        due(x.judge(0), 0);
        x.push(0, 1);
        due(x.judge(0), 1);
        x.clear();
        x.push(39, 1);
        x.push(0, 0);
        x.sheet(0, 8, 40);
        for (int i = 0; i < 39; i++) due(x.write(0, i, i < 2 ? 1 : 2), 1);
        due(x.judge(0), 40);
        x.write(0, 39, 2);
        due(x.judge(0), 0);
        x.hold(1, true);
        due(x.judge(0), 3);
        for (int i = 0; i < 39; i++) x.write(0, i, 1);
        due(x.judge(0), 40);
        x.write(0, 39, 1);
        due(x.judge(0), 0);
        x.hold(1, false);
        x.clear();
        x.push(39, 1);
        x.sheet(0, 8, 40);
        due(x.judge(0), 40);
        x.write(0, 39, 257);
        due(x.judge(0), 0);
    }

    static void promise36() {
        MeltPins x = of("place 1;place 1");
        due(x.spot(0, 1), 1);
        due(x.spot(9, 0), 1);
        due(x.as(0, 0), 1);
        due(x.as(9, 0), 0);
        due(x.count(6), 2);
        due(x.spot(10, 0), BEYOND);
        due(x.spot(-1, 0), BEYOND);
        due(x.spot(0, 2), BEYOND);
        due(x.spot(0, -2), BEYOND);
        due(x.as(0, 0), 1);
        due(x.spot(0, -1), 1);
        due(x.as(0, 0), MISSING);
        due(x.spot(0, -1), 1);
        due(x.count(6), 1);
    }

    static void promise37() {
        MeltPins x = of("place 1;stay 1;back 1;company 1;drown 1;part 1;told 1");
        String[] under = {"0", "01", "02", "013", "014", "025", "0136"};
        for (int place = 0; place < 7; place++) {
            x.spot(4, place);
            for (int kind = 0; kind < 7; kind++) {
                due(x.as(4, kind), under[place].indexOf('0' + kind) >= 0 ? place : KIND);
            }
        }
        due(x.as(4, 7), BEYOND);
        due(x.as(4, -1), BEYOND);
        due(x.as(10, 0), BEYOND);
        due(x.as(-1, 0), BEYOND);
        due(x.as(5, 7), BEYOND);
        due(x.as(5, 6), MISSING);
    }

    static void promise38() {
        MeltPins x = new MeltPins();
        due(x.sheet(0, 8, 3), 3);
        due(x.sheet(1, 16, 40), 40);
        due(x.sheet(2, 32, 0), 0);
        due(x.write(2, 0, 1), BEYOND);
        due(x.write(3, 0, 1), MISSING);
        due(x.write(1, 39, 1), 1);
        due(x.write(1, 40, 1), BEYOND);
        due(x.sheet(4, 8, 1), BEYOND);
        due(x.sheet(-1, 8, 1), BEYOND);
        due(x.sheet(0, 1, 1), BEYOND);
        due(x.sheet(0, 24, 1), BEYOND);
        due(x.sheet(0, -8, 1), BEYOND);
        due(x.sheet(0, 64, -1), BEYOND);
        due(x.sheet(4, 8, -1), BEYOND);
        due(x.sheet(0, 8, -1), SIZE);
        due(x.sheet(0, 0, -1), SIZE);
        due(x.sheet(0, 0, MIN), SIZE);
        due(x.sheet(0, 0, 41), BEYOND);
        due(x.sheet(0, 8, 41), BEYOND);
        due(x.sheet(0, 32, MAX), BEYOND);
        due(x.write(0, 2, 5), 1);
        due(x.judge(0), 3);
        due(x.sheet(0, 8, 3), 3);
        due(x.judge(0), 0);
        due(x.sheet(0, 0, 7), 0);
        due(x.write(0, 0, 0), MISSING);
        due(x.status(6), 3);
    }

    static void promise39() {
        MeltPins x = new MeltPins();
        due(x.write(-1, 0, 0), BEYOND);
        due(x.write(4, 0, 0), BEYOND);
        due(x.write(0, 99, 0), MISSING);
        x.sheet(0, 8, 2);
        x.sheet(1, 16, 2);
        x.sheet(2, 32, 2);
        due(x.write(0, 2, 0), BEYOND);
        due(x.write(0, -1, 0), BEYOND);
        due(x.write(0, MAX, 0), BEYOND);
        // Nobody is ever over: a number is told to be 0, or not.
        int[][] lost = {{256, -256, 65536}, {65536, -65536, MIN}, {0, 0, 0}};
        int[][] kept = {{255, 128, -1}, {65535, 256, -1}, {65536, MIN, 1}};
        for (int s = 0; s < 3; s++) {
            for (int v : lost[s]) {
                due(x.write(s, 1, v), 1);
                due(x.judge(s), 0);
            }
            for (int v : kept[s]) {
                due(x.write(s, 1, v), 1);
                due(x.judge(s), 2);
            }
        }
        // With their sign: 255 of 8 bits is no more 255, and so not any number of places; 257 is 1.
        x = of("place 1");
        x.push(0, 0);
        x.sheet(0, 8, 1);
        x.write(0, 0, 257);
        due(x.judge(0), 0);
        x.write(0, 0, -255);
        due(x.judge(0), 0);
        x.sheet(0, 16, 1);
        x.write(0, 0, 257);
        due(x.judge(0), 1);
        x.write(0, 0, 65537);
        due(x.judge(0), 0);
        x.sheet(0, 32, 1);
        x.write(0, 0, 65537);
        due(x.judge(0), 1);
    }

    static void promise40() {
        MeltPins x = of("place 9;place 9;place 9;place 9;place 9");
        for (int place = 0; place < 5; place++) x.push(place, place);     // 1, 2, 3, 4, 5 are over
        x.sheet(0, 8, 5);
        x.sheet(1, 8, 4);
        x.sheet(2, 16, 5);
        layers(x, 1, 2, 3, 4, 5);
        due(x.judge(0), 0);
        due(x.copy(0, 0, 1, 0, 4), 4);
        due(x.judge(1), 0);
        due(x.copy(0, 0, 1, 2, 2), 2);
        due(x.judge(1), 3);
        due(x.copy(0, 2, 1, 2, 2), 2);
        due(x.judge(1), 0);
        due(x.copy(0, 0, 1, 0, 5), BEYOND);
        due(x.copy(0, 2, 1, 0, 4), BEYOND);
        due(x.copy(0, 0, 1, 1, 4), BEYOND);
        due(x.copy(0, -1, 1, 0, 1), BEYOND);
        due(x.copy(0, 0, 1, -1, 1), BEYOND);
        due(x.copy(0, 0, 1, 0, -1), BEYOND);
        due(x.copy(0, MAX, 1, 0, MAX), BEYOND);
        due(x.copy(0, 1, 1, 1, MAX), BEYOND);
        due(x.copy(0, 5, 1, 4, 0), 0);
        due(x.copy(0, 6, 1, 0, 0), BEYOND);
        due(x.copy(0, 0, 2, 0, 1), KIND);
        due(x.copy(0, -1, 2, 0, 99), KIND);
        due(x.copy(0, 0, 3, 0, 1), MISSING);
        due(x.copy(3, 0, 2, -1, 1), MISSING);
        due(x.copy(4, 0, 3, 0, 1), BEYOND);
        due(x.copy(3, 0, -1, 0, 1), BEYOND);
        due(x.judge(1), 0);
        // Of one sheet to itself, as they all were: 1 1 2 3 4, and back.
        due(x.copy(0, 0, 0, 1, 4), 4);
        due(x.judge(0), 2);
        due(x.copy(0, 1, 0, 0, 4), 4);
        due(x.judge(0), 5);
        due(x.write(0, 4, 5), 1);
        due(x.judge(0), 0);
        due(x.status(2), 2);
        due(x.status(5), 2);
    }

    static void promise41() {
        MeltPins x = of("place 7;place 1;0 to 1 by 3");
        x.push(4, 1);
        x.hold(0, true);
        x.spot(2, 1);
        x.seed(77);
        x.sheet(0, 8, 1);
        x.feed(0x20, 1);
        due(x.image(), 1);
        due(x.count(4), 1);
        x.change(0, 1, 9);
        x.change(0, 7, 1);
        x.step(0);
        x.tie(0, 1, 4);
        x.tie(1, 0, 4);
        x.clear();
        x.hold(0, false);
        x.hold(1, true);
        x.spot(2, -1);
        x.seed(3);
        x.sheet(0, 8, 2);
        x.feed(0x20, 1);
        due(read(x, "place 5"), 3);
        x.feed(0x2020, 2);
        x.push(9, 2);
        x.push(9, 1);
        due(x.undo(), 2);
        due(x.placeOf(0, 1), 7);
        due(x.placeOf(0, 7), -1);
        due(x.placeOf(0, 8), 0);
        due(x.placeOf(0, 10), 1);
        due(x.placeOf(1, 10), 0);
        due(x.tieOf(0, 1), 3);
        due(x.tieOf(1, 0), 0);
        int[] counts = {2, 1, 1, 1, 2, 77, 1};
        for (int what = 0; what <= 6; what++) due(x.count(what), counts[what]);
        due(x.pushOf(0, 0), 4);
        due(x.pushOf(0, 1), 1);
        due(x.as(2, 0), 1);
        due(x.write(0, 1, 0), 1);
        due(new MeltPins().image(), 1);
    }

    static void promise42() {
        MeltPins x = new MeltPins();
        due(x.undo(), NONE);
        read(x, "place 1");
        x.image();
        read(x, "place 1");
        due(x.undo(), 1);
        read(x, "place 1;place 1");
        due(x.undo(), 1);
        read(x, "stay 1");
        x.image();
        read(x, "stay 1");
        due(x.undo(), 2);
        due(x.placeOf(1, 0), 1);
        due(x.undo(), 2);
        due(x.change(0, 1, 8), 1);
        due(x.undo(), 2);
        due(x.placeOf(0, 1), 1);
        due(x.status(3), 1);
        due(x.placeOf(2, 0), BEYOND);
        due(x.undo(), 2);
        due(x.status(0), 1);
    }

    static void promise43() {
        MeltPins x = of("place 1");
        due(x.tear(), 0);
        x.image();
        x.image();
        due(x.tear(), 1);
        due(x.tear(), 0);
        due(x.undo(), NONE);
        due(x.count(0), 1);
        x.image();
        due(x.undo(), 1);
    }

    static void promise44() {
        MeltPins x = of("place 1;place 1;place 1;0 to 1 by 1;1 to 0 by 2;1 to 2 by 3;2 to 0 by 4");
        x.push(0, 0);
        x.push(1, 0);
        x.hold(2, true);
        x.feed(0, 4);
        x.feed(0, 1);
        x.seed(-1000004);
        for (int spot = 0; spot < 6; spot++) x.spot(spot, 0);
        int[] counts = {3, 4, 2, 1, 5, -1000004, 6};
        for (int what = 0; what <= 6; what++) due(x.count(what), counts[what]);
        due(x.status(-1), 0);
        due(x.count(7), BEYOND);
        due(x.count(-1), BEYOND);
        due(x.count(MAX), BEYOND);
        due(x.status(-1), 3);
    }

    static void promise45() {
        MeltPins x = of("place 1;place 1");
        x.image();
        x.step(2);                                          // BEYOND
        for (int i = 0; i < 9; i++) x.step(0);
        x.step(0);                                          // FULL
        x.step(0);                                          // FULL
        x.spot(0, 0);
        for (int i = 0; i < 3; i++) x.as(0, 1);             // KIND
        for (int i = 0; i < 4; i++) x.cut(0, 1);            // NONE
        x.push(0, 0);
        for (int i = 0; i < 5; i++) x.push(0, 0);           // STATE
        for (int i = 0; i < 6; i++) x.judge(0);             // MISSING
        for (int i = 0; i < 7; i++) x.sheet(0, 8, -1);      // SIZE
        for (int which = 0; which <= 6; which++) due(x.status(which), which + 1);
        due(x.status(-1), 28);
        due(x.world(), -1);
        due(x.status(-1), 28);
        due(x.undo(), 2);
        due(x.status(-1), 28);
        due(x.status(7), BEYOND);
        due(x.status(-2), BEYOND);
        due(x.status(0), 3);
        due(x.status(-1), 30);
    }
}
