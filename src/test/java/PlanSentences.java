/** Promises 12 to 18, sentence by sentence. */
final class PlanSentences extends Check {

    // ---- push

    @Says(promise = 12, words = "One more PUSH: how many.")
    static void push() {
        MeltPins x = two();
        due(x.push(49, 1), 1);
        due(x.push(0, 0), 2);
        due(x.push(0, 1), 3);
        due(x.push(49, 0), 4);
        int[][] rows = {{49, 1}, {0, 0}, {0, 1}, {49, 0}};
        for (int i = 0; i < 4; i++) for (int what = 0; what < 2; what++) due(x.pushOf(i, what), rows[i][what]);
        due(x.count(2), 4);
        due(x.run(1, 0), 3);
        due(x.status(-1), 0);
        // A HELD one may be pushed, too.
        x.hold(0, true);
        due(x.push(3, 0), 5);
        due(x.run(9, 0), 2);
    }

    @Says(promise = 12, words = "BEYOND.")
    static void pushBeyond() {
        taken(Check::two, (x, v) -> x.push(v, 1), 0, 49);
        taken(Check::two, (x, v) -> x.push(7, v), 0, 1);
        taken(Check::twelve, (x, v) -> x.push(7, v), 0, 11);
        for (int v : new int[] {-1, 50, MIN, MAX}) refused(Check::full, x -> x.push(v, 0), BEYOND);
        for (int v : new int[] {-1, 12, MIN, MAX}) refused(Check::full, x -> x.push(0, v), BEYOND);
        refused(Check::empty, x -> x.push(0, 0), BEYOND);
    }

    @Says(promise = 12, words = "STATE: there is just this one.")
    static void pushState() {
        refused(PlanSentences::pushed, x -> x.push(4, 1), STATE);
        refused(PlanSentences::pushed, x -> x.push(49, 0), STATE);
        takes(PlanSentences::pushed, x -> x.push(4, 0));
        takes(PlanSentences::pushed, x -> x.push(49, 1));
        for (int place = 0; place < 12; place++) {
            int one = place;
            refused(Check::full, x -> x.push(0, one), STATE);
        }
        for (int year = 1; year <= 8; year++) {
            int one = year;
            refused(Check::full, x -> x.push(one, 0), STATE);
        }
        MeltPins x = pushed();
        x.clear();
        due(x.push(4, 1), 1);
    }

    private static MeltPins pushed() {
        MeltPins x = two();
        x.push(4, 1);
        x.push(49, 0);
        return x;
    }

    @Says(promise = 12, words = "FULL.")
    static void pushFull() {
        refused(Check::full, x -> x.push(1, 1), FULL);
        refused(Check::full, x -> x.push(9, 0), FULL);
        refused(Check::full, x -> x.push(49, 11), FULL);
        MeltPins x = two();
        for (int year = 0; year < 19; year++) x.push(year, 0);
        due(x.push(49, 1), 20);
        due(x.push(48, 1), FULL);
        due(x.pushOf(19, 0), 49);
        due(x.pushOf(20, 0), BEYOND);
        due(x.run(50, 0), 3);
        due(x.clear(), 20);
        due(x.push(48, 1), 1);
    }

    // ---- pushOf

    @Says(promise = 13, words = "Of a PUSH (in the order told): what 0 its YEAR, 1 its PLACE.")
    static void pushOf() {
        MeltPins x = twelve();
        for (int i = 0; i < 20; i++) due(x.push(49 - 2 * i, i % 12), i + 1);
        for (int i = 0; i < 20; i++) {
            due(x.pushOf(i, 0), 49 - 2 * i);
            due(x.pushOf(i, 1), i % 12);
        }
        due(x.status(-1), 0);
    }

    @Says(promise = 13, words = "BEYOND.")
    static void pushOfBeyond() {
        taken(PlanSentences::pushed, (x, v) -> x.pushOf(v, 0), 0, 1);
        taken(PlanSentences::pushed, (x, v) -> x.pushOf(v, 1), 0, 1);
        taken(PlanSentences::pushed, (x, v) -> x.pushOf(1, v), 0, 1);
        taken(Check::full, (x, v) -> x.pushOf(v, 0), 0, 19);
        refused(Check::two, x -> x.pushOf(0, 0), BEYOND);
        refused(Check::empty, x -> x.pushOf(0, 1), BEYOND);
        refused(() -> cleared(), x -> x.pushOf(0, 0), BEYOND);
        refused(() -> cleared(), x -> x.pushOf(1, 1), BEYOND);
    }

    private static MeltPins cleared() {
        MeltPins x = pushed();
        x.clear();
        return x;
    }

    // ---- clear

    @Says(promise = 14, words = "THE PLAN is empty: how many PUSHES it had.")
    static void clear() {
        MeltPins x = full();
        due(x.clear(), 20);
        due(x.count(2), 0);
        due(x.clear(), 0);
        due(x.run(99, 0), 0);
        due(x.settles(), 0);
        due(x.pushOf(0, 0), BEYOND);
        due(x.push(0, 0), 1);
        due(x.pushOf(0, 0), 0);
        due(x.clear(), 1);
        due(new MeltPins().clear(), 0);
        // Nothing else goes.
        x = two();
        x.hold(1, true);
        x.push(0, 0);
        due(x.clear(), 1);
        due(x.count(0), 2);
        due(x.count(3), 1);
        due(x.status(-1), 0);
    }

    // ---- run

    @Says(promise = 15, words = "By THE PLAN, behind n YEARS (0 to 99): what 0 who is OVER, 1 who is DROWNED.")
    static void run() {
        MeltPins x = of("drown 1 takes 9;place 99;place 99;1 to 0 by 1");
        x.change(0, 7, 2);
        x.push(0, 2);
        x.push(40, 1);
        due(x.run(0, 0), 0);
        due(x.run(0, 1), 0);
        due(x.run(1, 0), 4);
        due(x.run(40, 0), 4);
        due(x.run(41, 0), 6);
        due(x.run(49, 0), 6);
        due(x.run(49, 1), 0);
        due(x.run(50, 0), 3);
        due(x.run(50, 1), 4);
        due(x.run(99, 0), 3);
        due(x.run(99, 1), 4);
        due(x.status(-1), 0);
        // What is behind the 99th year, and not the 98th.
        x = chain();
        x.push(49, 0);
        due(x.run(98, 0), 31);
        due(x.run(99, 0), 63);
        x = full();
        due(x.run(0, 0), 0);
        due(x.run(1, 0), 4095);
        due(x.run(99, 0), 4095);
        due(x.run(99, 1), 0);
        x = twelve();
        due(x.run(99, 0), 0);
        due(new MeltPins().run(99, 0), 0);
        due(new MeltPins().run(0, 1), 0);
    }

    @Says(promise = 15, words = "BEYOND.")
    static void runBeyond() {
        taken(Check::full, (x, v) -> x.run(v, 0), 0, 99);
        taken(Check::empty, (x, v) -> x.run(v, 1), 0, 99);
        taken(Check::full, (x, v) -> x.run(99, v), 0, 1);
        taken(Check::empty, (x, v) -> x.run(0, v), 0, 1);
    }

    // ---- runOf

    @Says(promise = 16, words = "By THE PLAN, behind n YEARS (0 to 99), of a PLACE: what 0 YEARS ON ITS WAY, 1 what it GETS.")
    static void runOf() {
        MeltPins x = of("place 99;place 5 takes 9;0 to 1 by 5;1 to 0 by 9");
        x.push(30, 0);
        for (int n = 0; n <= 30; n++) due(x.runOf(n, 1, 0), 0);
        for (int n = 31; n <= 40; n++) {
            due(x.runOf(n, 1, 0), n - 30);
            due(x.runOf(n, 1, 1), 5);
            due(x.runOf(n, 0, 1), n == 40 ? 9 : 0);
        }
        due(x.runOf(99, 1, 0), 10);
        due(x.runOf(99, 1, 1), 5);
        due(x.runOf(99, 0, 0), 0);
        due(x.runOf(99, 0, 1), 9);
        due(x.runOf(30, 1, 1), 0);
        x.tie(0, 1, 4);
        for (int n = 30; n <= 50; n++) due(x.runOf(n, 1, 0), 0);
        due(x.runOf(50, 1, 1), 4);
        due(x.status(-1), 0);
        // All twelve are over: each gets all that is tied to it.
        x = full();
        int[] gets = {0, 10, 15, 15, 20, 20, 20, 20, 20, 20, 20, 20};
        for (int place = 0; place < 12; place++) {
            due(x.runOf(0, place, 1), 0);
            due(x.runOf(1, place, 1), gets[place]);
            due(x.runOf(99, place, 1), gets[place]);
            due(x.runOf(99, place, 0), 0);
        }
    }

    @Says(promise = 16, words = "BEYOND: n, place, what.")
    static void runOfBeyond() {
        taken(Check::two, (x, v) -> x.runOf(v, 0, 0), 0, 99);
        taken(Check::full, (x, v) -> x.runOf(v, 11, 1), 0, 99);
        taken(Check::two, (x, v) -> x.runOf(5, v, 0), 0, 1);
        taken(Check::full, (x, v) -> x.runOf(99, v, 1), 0, 11);
        taken(Check::two, (x, v) -> x.runOf(0, 0, v), 0, 1);
        refused(Check::empty, x -> x.runOf(0, 0, 0), BEYOND);
    }

    // ---- when

    @Says(promise = 17, words = "By THE PLAN: behind how many YEARS (at least) a PLACE is OVER for the first time.")
    static void when() {
        MeltPins x = chain();
        x.push(0, 0);
        int[] years = {1, 10, 20, 30, 40, 50};
        for (int place = 0; place < 6; place++) due(x.when(place), years[place]);
        x.clear();
        x.push(49, 0);
        for (int place = 0; place < 6; place++) due(x.when(place), 49 + years[place]);
        // For the first time: of two pushes the earlier, though it falls between, and though it was told later.
        x = of("back 9 lower 1;place 1;0 to 1 by 1");
        x.push(20, 0);
        x.push(3, 0);
        due(x.when(0), 4);
        due(x.when(1), 4);
        due(x.run(5, 0), 2);
        x = full();
        for (int place = 0; place < 12; place++) due(x.when(place), 1);
        due(x.status(-1), 0);
    }

    @Says(promise = 17, words = "BEYOND.")
    static void whenBeyond() {
        taken(Check::full, (x, v) -> x.when(v), 0, 11);
        refused(Check::empty, x -> x.when(0), BEYOND);
        refused(Check::two, x -> x.when(2), BEYOND);
    }

    @Says(promise = 17, words = "NONE: not behind 99.")
    static void whenNone() {
        refused(Check::two, x -> x.when(0), NONE);
        // Behind 99 years, and one year later.
        MeltPins x = chain();
        x.push(49, 0);
        due(x.when(5), 99);
        x.change(1, 3, 8);
        due(x.when(5), 98);
        x.change(1, 3, 9);
        read(x, "place 1;5 to 6 by 1");
        due(x.when(6), NONE);
        x.change(1, 3, 8);
        due(x.when(6), 99);
        refused(PlanSentences::lateByOne, m -> m.when(6), NONE);
        // HELD, or drowned in the year in which it comes to be over.
        x = of("drown 9;place 9");
        x.change(0, 7, 1);
        x.push(0, 0);
        x.push(0, 1);
        due(x.when(1), NONE);
        x.hold(0, true);
        due(x.when(1), 1);
        due(x.when(0), NONE);
    }

    private static MeltPins lateByOne() {
        MeltPins x = chain();
        read(x, "place 1;5 to 6 by 1");
        x.push(49, 0);
        return x;
    }

    // ---- settles

    @Says(promise = 18, words = "By THE PLAN: the least n (0 to 99) such that who is OVER and who is DROWNED are the same behind n "
        + "YEARS and behind each number of YEARS above n, up to 99.")
    static void settles() {
        due(new MeltPins().settles(), 0);
        due(twelve().settles(), 0);
        due(full().settles(), 1);
        MeltPins x = chain();
        due(x.settles(), 0);
        x.push(0, 0);
        due(x.settles(), 50);
        x.clear();
        x.push(49, 0);
        due(x.settles(), 99);
        x.change(3, 3, 8);
        due(x.settles(), 98);
        x.change(1, 3, 8);
        due(x.settles(), 97);
        // What changes without end: 99, as behind 98 it is other than behind 99.
        x = threeInTurn();
        x.push(0, 0);
        due(x.settles(), 99);
        // It is not enough that it rests for a while, nor that it is as it was.
        x = of("back 9 lower 1;place 9");
        x.push(0, 0);
        due(x.settles(), 2);
        x.push(30, 0);
        due(x.settles(), 32);
        x.push(31, 0);
        due(x.settles(), 33);
        // DROWNED alone changes, too: two that drown one another are not over behind any year.
        x = of("drown 9;drown 9");
        x.change(0, 7, 1);
        x.change(1, 7, 0);
        x.push(7, 0);
        x.push(7, 1);
        due(x.run(8, 0), 0);
        due(x.run(8, 1), 3);
        due(x.settles(), 8);
        // YEARS ON THEIR WAY don't count.
        x = of("drown 9;place 9;place 1 takes 9");
        x.change(0, 7, 1);
        x.push(7, 0);
        due(x.settles(), 8);
        x.tie(0, 2, 1);
        x.push(3, 0);
        x.push(40, 1);
        due(x.settles(), 13);
        x.change(2, 1, 2);
        due(x.settles(), 4);
        x.hold(0, true);
        due(x.settles(), 41);
        x = of("place 9;drown 1 takes 4;place 99;0 to 1 by 1");
        x.change(1, 7, 2);
        x.push(0, 0);
        due(x.settles(), 5);
        x.hold(1, true);
        due(x.settles(), 1);
        // Of two that come to be over and over no more in one year how many are over stays, who is over doesn't.
        x = of("back 9 lower 1;place 1 takes 1;0 to 1 by 1");
        x.push(0, 0);
        due(x.run(1, 0), 1);
        due(x.run(2, 0), 2);
        due(x.settles(), 2);
        due(x.status(-1), 0);
    }
}
