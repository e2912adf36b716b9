import java.nio.file.Files;
import java.nio.file.Path;

/** "What it is" and "Terms", sentence by sentence. */
final class TermSentences extends Check {

    @Says(promise = -1, words = "An object is used for at most 512 calls after it has been made; what later calls answer is free.")
    static void callsOfAnObject() {
        MeltPins x = new MeltPins();
        for (int i = 1; i <= 505; i++) due(x.seed(i), i == 1 ? 1 : i - 1);
        due(x.feed(0x706c6163, 4), 4);
        due(x.feed(0x6520, 2), 6);
        due(x.feed(0x39, 1), 7);
        due(x.world(), 1);
        due(x.push(0, 0), 1);
        due(x.image(), 1);
        due(x.run(1, 0), 1);                                  // the 512th
        x = full();
        for (int i = x.status(-1); i < 300; i++) due(x.step(0), FULL);
        due(x.status(1), 300);
    }

    // ---- findings

    @Says(promise = 0, words = "FINDINGS are answers below -1000000: LOW is -1000001; LOW BEYOND, LOW - 1 FULL, LOW - 2 KIND, "
        + "LOW - 3 NONE, LOW - 4 STATE, LOW - 5 MISSING, LOW - 6 SIZE (in longs, too).")
    static void findings() {
        MeltPins x = full();
        due(x.placeOf(12, 0), -1000001);
        due(x.feed(0, 1), -1000002);
        due(x.as(0, 6), -1000003);
        due(x.cut(0, 0), -1000004);
        due(x.push(0, 0), -1000005);
        due(x.judge(3), -1000006);
        due(x.sheet(0, 8, -1), -1000007);
        for (int which = 0; which <= 6; which++) due(x.status(which), 1);
        due(x.status(-1), 7);
        // The only call that answers a long tells none.
        due(x.likely(), 0);
        due(x.status(-1), 7);
    }

    @Says(promise = 0, words = "What seed() and count(5) tell, z, may be any int: that is no finding.")
    static void anyZ() {
        MeltPins x = new MeltPins();
        int was = 1;
        for (int z : new int[] {MIN, MAX, 0, -1, -1000000, BEYOND, FULL, KIND, NONE, STATE, MISSING, SIZE, -1000008}) {
            due(x.seed(z), was);
            due(x.count(5), z);
            was = z;
        }
        due(x.seed(5), -1000008);
        for (int which = -1; which <= 6; which++) due(x.status(which), 0);
    }

    @Says(promise = 0, words = "Each act tells its findings in the order in which they are asked (that of its words); "
        + "one that answers a finding changes nothing but status().")
    static void whichFindingFirst() {
        // BEYOND ahead of FULL, of STATE, of NONE.
        refused(Check::full, x -> x.feed(0, 0), BEYOND);
        refused(Check::full, x -> x.feed(0, 5), BEYOND);
        refused(Check::full, x -> x.feed(0, 1), FULL);
        refused(Check::full, x -> x.tie(0, 1, 0), BEYOND);
        refused(Check::full, x -> x.tie(0, 1, 100), BEYOND);
        refused(Check::full, x -> x.tie(11, 11, 1), BEYOND);
        refused(Check::full, x -> x.tie(0, 12, 1), BEYOND);
        refused(Check::full, x -> x.tie(12, 0, 1), BEYOND);
        refused(Check::full, x -> x.tie(0, 1, 1), FULL);
        refused(Check::full, x -> x.push(50, 0), BEYOND);
        refused(Check::full, x -> x.push(0, 12), BEYOND);
        refused(Check::full, x -> x.push(0, 0), STATE);
        refused(Check::full, x -> x.push(9, 0), FULL);
        refused(Check::full, x -> x.step(12), BEYOND);
        refused(Check::full, x -> x.step(0), FULL);
        refused(Check::full, x -> x.most(13, 2), BEYOND);
        refused(Check::full, x -> x.most(13, 1), NONE);
        refused(TermSentences::never, x -> x.fewest(3), BEYOND);
        refused(TermSentences::never, x -> x.fewest(2), NONE);
        refused(TermSentences::never, x -> x.cheapest(3), BEYOND);
        refused(TermSentences::never, x -> x.cheapest(2), NONE);
        refused(TermSentences::never, x -> x.order(3, 0, 2), BEYOND);
        refused(TermSentences::never, x -> x.order(3, 6, 1), BEYOND);
        refused(TermSentences::never, x -> x.order(0, 5, 1), BEYOND);
        refused(TermSentences::never, x -> x.order(3, 5, 1), NONE);
        refused(TermSentences::never, x -> x.near(4), BEYOND);
        refused(TermSentences::never, x -> x.near(3), NONE);
        refused(TermSentences::never, x -> x.edge(4, 0), BEYOND);
        refused(TermSentences::never, x -> x.edge(3, 2), BEYOND);
        refused(TermSentences::never, x -> x.edge(3, 1), NONE);
        refused(TermSentences::never, x -> x.late(4), BEYOND);
        refused(TermSentences::never, x -> x.late(3), NONE);
        refused(TermSentences::never, x -> x.when(2), BEYOND);
        refused(TermSentences::never, x -> x.when(0), NONE);
        // MISSING between BEYOND and the rest.
        refused(TermSentences::never, x -> x.as(0, 7), BEYOND);
        refused(TermSentences::never, x -> x.as(0, 1), MISSING);
        refused(TermSentences::never, x -> x.first(4), BEYOND);
        refused(TermSentences::never, x -> x.first(0), MISSING);
        refused(Check::full, x -> x.first(0), NONE);
        refused(Check::full, x -> x.write(4, 99, 0), BEYOND);
        refused(Check::full, x -> x.write(3, 99, 0), MISSING);
        refused(Check::full, x -> x.write(0, 99, 0), BEYOND);
        refused(Check::full, x -> x.sheet(4, 8, -1), BEYOND);
        refused(Check::full, x -> x.sheet(0, 9, -1), BEYOND);
        refused(Check::full, x -> x.sheet(0, 8, -1), SIZE);
        refused(Check::full, x -> x.sheet(0, 8, 41), BEYOND);
        refused(Check::full, x -> x.copy(4, 0, 3, 0, 0), BEYOND);
        refused(Check::full, x -> x.copy(3, 0, 4, 0, 0), BEYOND);
        refused(Check::full, x -> x.copy(3, 0, 0, -1, 0), MISSING);
        refused(Check::full, x -> x.copy(0, 0, 3, -1, 0), MISSING);
        refused(Check::full, x -> x.copy(0, -1, 2, 0, 0), KIND);
        refused(Check::full, x -> x.copy(0, -1, 1, 0, 0), BEYOND);
    }

    /** Two places, one of them HELD: ALL are never OVER. */
    private static MeltPins never() {
        MeltPins x = two();
        x.hold(0, true);
        return x;
    }

    @Says(promise = 0, words = "Quotients are cut.")
    static void quotients() {
        MeltPins x = of("told 1");
        for (int bar = 2; bar <= 99; bar++) {
            x.change(0, 1, bar);
            int pairs = 0;
            for (int left = bar; left >= 2; left -= 2) pairs++;
            due(x.placeOf(0, 9), pairs);
        }
    }

    @Says(promise = 0, words = "Sets are told as bits; of several sets (or places) that would do the least number counts, "
        + "where nothing else is told.")
    static void setsAsBits() {
        MeltPins x = twelve();
        for (int place = 0; place < 12; place++) due(x.stand(1 << place), 1 << place);
        due(x.stand(0), 0);
        due(x.stand(4095), 4095);
        due(x.stand(2048 + 32 + 1), 2048 + 32 + 1);
        due(x.look(), 0);
        due(x.most(1, 0), 1);
        due(x.most(6, 0), 63);
        due(x.game(1, 1), 0);
        // 3, 4 and 5 bring one another, and so do 0, 1 and 2: of each the least one.
        x = of("place 1;place 1;place 1;place 1;place 1;place 1;0 to 1 by 1;1 to 2 by 1;2 to 0 by 1",
            "3 to 4 by 1;4 to 5 by 1;5 to 3 by 1");
        due(x.fewest(0), 1 + 8);
        due(x.cheapest(0), 1 + 8);
        due(x.most(2, 0), 1 + 8);
        due(x.look(), 0);
        due(x.stop(1 + 8, 0), 2 + 16);
        sheetOf(x, 0, 8, 1, 1, 1, 1, 1, 1);
        due(x.first(0), 1 + 2 + 8 + 16);
        sheetOf(x, 0, 8, 1, 1, 2, 2, 1, 1);
        due(x.first(0), 1 + 16);
        // 0 falls, 2 goes and falls, 1 stays: either 1 or 2 held.
        x = of("back 9 lower 1;place 1;back 1 lower 1;0 to 2 by 1;2 to 1 by 1");
        due(x.stand(1), 2);
        due(x.stop(1, 0), 2);
    }

    // ---- 1. places

    @Says(promise = 0, words = "PLACES 0, 1, .. (at most 12) are of KINDS: 0 PLACE, 1 STAY, 2 BACK under PLACE; "
        + "3 COMPANY, 4 DROWN under STAY; 5 PART under BACK; 6 TOLD under COMPANY.")
    static void placesAndKinds() {
        MeltPins x = new MeltPins();
        String[] names = {"place", "stay", "back", "company", "drown", "part", "told"};
        for (int place = 0; place < 12; place++) {
            due(x.placeOf(place, 0), BEYOND);
            due(read(x, names[place % 7] + " 5"), place + 1);
            due(x.placeOf(place, 0), place % 7);
        }
        due(read(x, "place 5"), -1);
        due(x.count(0), 12);
        due(x.placeOf(12, 0), BEYOND);
        x = kinds();
        int[][] above = {{0}, {1, 0}, {2, 0}, {3, 1, 0}, {4, 1, 0}, {5, 2, 0}, {6, 3, 1, 0}};
        for (int place = 0; place < 7; place++) {
            x.spot(0, place);
            int are = 0;
            for (int kind : above[place]) due(x.as(0, kind), place);
            for (int kind = 0; kind < 7; kind++) if (x.as(0, kind) == place) are++;
            due(are, above[place].length);
        }
    }

    @Says(promise = 0, words = "Each has a BAR (1 to 99), a LOWER (0 to 99), TAKES (0 to 9 YEARS), a COST (1 to 99), "
        + "a PRICE (to hold it, 1 to 99), a CHANCE (0 to 10 tenths), SPOILS (another PLACE, or none: -1), STEPS (0 to 9; 0 at first).")
    static void boundsOfTraits() {
        int[] low = {0, 1, 0, 0, 1, 1, 0, -1};
        int[] high = {0, 99, 99, 9, 99, 99, 10, 6};
        for (int what = 1; what <= 7; what++) {
            int trait = what;
            taken(Check::kinds, (x, v) -> x.change(0, trait, v), low[what], high[what]);
            for (int v : new int[] {low[what], high[what]}) {
                MeltPins x = kinds();
                x.change(0, what, v);
                due(x.placeOf(0, what), v);
            }
        }
        refused(Check::kinds, x -> x.change(0, 7, 0), BEYOND);
        refused(Check::kinds, x -> x.change(6, 7, 6), BEYOND);
        takes(Check::kinds, x -> x.change(6, 7, 5));
        takes(Check::kinds, x -> x.change(1, 7, 0));
        refused(Check::empty, x -> x.change(0, 7, -1), BEYOND);
        refused(() -> of("place 1"), x -> x.change(0, 7, 0), BEYOND);
        refused(() -> of("place 1"), x -> x.change(0, 7, 1), BEYOND);
        takes(() -> of("place 1"), x -> x.change(0, 7, -1));
        MeltPins x = kinds();
        for (int place = 0; place < 7; place++) {
            due(x.placeOf(place, 8), 0);
            for (int steps = 1; steps <= 9; steps++) due(x.step(place), steps);
            due(x.step(place), FULL);
            due(x.placeOf(place, 8), 9);
        }
    }

    @Says(promise = 0, words = "TIES (at most 40): from a PLACE to another one, by a PART (1 to 99).")
    static void ties() {
        MeltPins x = twelve();
        int put = 0;
        for (int from = 0; from < 12; from++) {
            for (int to = 0; to < 12; to++) {
                due(x.tie(from, to, 1 + put), from == to ? BEYOND : put < 40 ? 0 : FULL);
                if (from != to && put < 40) put++;
                due(x.count(1), put);
            }
        }
        due(x.tie(0, 1, 99), 1);
        due(x.tie(0, 1, 1), 99);
        due(x.tieOf(0, 1), 1);
        due(x.tieOf(1, 0), 12);
        due(read(x, "11 to 10 by 1"), -1);
        taken(Check::two, (m, v) -> m.tie(1, 0, v), 1, 99);
    }

    @Says(promise = 0, words = "A PLACE GETS the PARTS of all TIES to it from PLACES that are OVER.")
    static void gets() {
        MeltPins x = twelve();
        for (int from = 0; from < 11; from++) x.tie(from, 11, 99);
        x.tie(11, 0, 50);
        x.hold(11, true);
        for (int year = 0; year < 11; year++) x.push(year, year);
        for (int n = 0; n <= 11; n++) due(x.runOf(n, 11, 1), 99 * n);
        // A tie from it, and to others, gives it nothing.
        for (int n = 0; n <= 11; n++) due(x.runOf(n, 0, 1), 0);
        x.hold(11, false);
        due(x.runOf(1, 0, 1), 50);
        // Who is over no more gives nothing any more.
        x = of("back 9 lower 1;place 9;place 9;0 to 1 by 7;2 to 1 by 1");
        x.push(0, 0);
        x.push(3, 2);
        int[] gets = {0, 7, 0, 0, 1, 1};
        for (int n = 0; n <= 5; n++) due(x.runOf(n, 1, 1), gets[n]);
    }

    @Says(promise = 0, words = "HEIGHT: PLACE: its BAR; TOLD: half of a COMPANY's (cut, 1 at least); "
        + "PART: a BACK one's less 10 times its STEPS (1 at least); others as the KIND above.")
    static void height() {
        MeltPins x = kinds();
        for (int bar : new int[] {1, 2, 3, 4, 50, 98, 99}) {
            for (int place = 0; place < 7; place++) x.change(place, 1, bar);
            for (int place = 0; place <= 5; place++) due(x.placeOf(place, 9), bar);
            due(x.placeOf(6, 9), bar == 1 ? 1 : bar / 2);
        }
        for (int steps = 1; steps <= 9; steps++) {
            for (int place = 0; place < 7; place++) x.step(place);
            for (int place = 0; place <= 4; place++) due(x.placeOf(place, 9), 99);
            due(x.placeOf(5, 9), 99 - 10 * steps);
            due(x.placeOf(6, 9), 49);
        }
        int[] bars = {92, 91, 90, 89, 1};
        int[] heights = {2, 1, 1, 1, 1};
        for (int i = 0; i < 5; i++) {
            x.change(5, 1, bars[i]);
            due(x.placeOf(5, 9), heights[i]);
        }
        x = of("part 11;part 10;part 12");
        for (int place = 0; place < 3; place++) x.step(place);
        due(x.placeOf(0, 9), 1);
        due(x.placeOf(1, 9), 1);
        due(x.placeOf(2, 9), 2);
    }

    @Says(promise = 0, words = "GOES: PLACE: it GETS its HEIGHT or more; COMPANY: as a STAY one, and two PLACES or more that "
        + "have TIES to it are OVER; TOLD: as a PLACE; others as the KIND above.")
    static void goes() {
        String[] names = {"place", "stay", "back", "company", "drown", "part", "told"};
        for (int kind = 0; kind < 7; kind++) {
            int height = kind == 6 ? 3 : 7;
            MeltPins x = of("place 99;place 99;place 99;" + names[kind] + " 7;0 to 3 by 1;1 to 3 by 1");
            x.push(0, 0);
            for (int part = height - 1; part <= height + 1; part++) {
                x.tie(0, 3, part);
                due(x.run(9, 0), part >= height && kind != 3 ? 9 : 1);
            }
            // 2 is over beside it, but has no tie to it.
            x.push(0, 2);
            due(x.run(9, 0), kind == 3 ? 5 : 13);
            x.push(0, 1);
            due(x.run(9, 0), 15);
            x.tie(0, 3, height - 1);
            due(x.run(9, 0), 15);
            x.tie(0, 3, height - 2);
            due(x.run(9, 0), 7);
            x.tie(2, 3, 1);
            due(x.run(9, 0), 15);
        }
        // In company of two or three of 1, 3 and 4, whoever is over beside it.
        MeltPins x = of("place 9;place 9;place 9;place 9;place 9;company 1;1 to 5 by 9;3 to 5 by 9;4 to 5 by 9;5 to 0 by 1");
        for (int set = 0; set < 32; set++) {
            int beside = 0;
            for (int place : new int[] {1, 3, 4}) beside += set >> place & 1;
            due(x.stand(set), beside >= 2 ? set + 32 : set);
        }
    }

    @Says(promise = 0, words = "FALLS: PLACE: never; BACK: it GETS less than its LOWER; PART: as a BACK one, without STEPS; "
        + "others as the KIND above.")
    static void falls() {
        String[] names = {"place", "stay", "back", "company", "drown", "part", "told"};
        for (int kind = 0; kind < 7; kind++) {
            boolean back = kind == 2 || kind == 5;
            MeltPins x = of("place 99;" + names[kind] + " 99;0 to 1 by 5");
            x.push(0, 0);
            x.push(0, 1);
            int[] lowers = {0, 4, 5, 6, 99};
            for (int lower : lowers) {
                x.change(1, 2, lower);
                due(x.run(1, 0), 3);
                due(x.run(2, 0), back && lower > 5 ? 1 : 3);
                due(x.run(99, 0), back && lower > 5 ? 1 : 3);
            }
            for (int steps = 1; steps <= 9; steps++) {
                x.step(1);
                due(x.run(2, 0), kind == 2 ? 1 : 3);
            }
        }
        // A LOWER of 0 is never above what it gets; 1 is, if it gets nothing.
        MeltPins x = of("back 1;part 1;back 1 lower 1;part 1 lower 1");
        for (int place = 0; place < 4; place++) x.push(0, place);
        due(x.run(2, 0), 3);
    }

    @Says(promise = 0, words = "A YEAR: first PUSHES of that YEAR: each makes its PLACE OVER (nothing, if it is HELD or DROWNED).")
    static void pushesOfAYear() {
        MeltPins x = of("place 99;place 99;drown 99;place 1;0 to 3 by 1;1 to 3 by 1");
        x.change(2, 7, 1);
        x.hold(0, true);
        x.push(0, 0);
        due(x.run(1, 0), 0);
        due(x.runOf(9, 0, 0), 0);
        x.push(1, 2);
        x.push(2, 1);
        due(x.run(2, 0), 4);
        due(x.run(3, 0), 4);
        due(x.run(3, 1), 2);
        due(x.run(9, 0), 4);
        // By then one that is pushed is over for the others of that year; all pushes of a year count, those of others don't.
        x.hold(0, false);
        due(x.run(1, 0), 9);
        x.clear();
        x.push(49, 0);
        x.push(48, 1);
        due(x.run(48, 0), 0);
        due(x.run(49, 0), 10);
        due(x.run(50, 0), 11);
    }

    @Says(promise = 0, words = "Then all at once, by who is OVER then: a PLACE that isn't OVER, HELD, DROWNED is one more YEAR "
        + "ON ITS WAY if it GOES (0 YEARS, if it doesn't), and OVER, if that is more than it TAKES; one that is OVER and not "
        + "PUSHED in this YEAR is OVER no more (0 YEARS ON ITS WAY), if it FALLS.")
    static void allAtOnce() {
        // One after the other, in whichever order they are told: none goes by one that comes to be over in that year.
        MeltPins x = of("place 1;place 1;place 1;0 to 1 by 1;1 to 2 by 1");
        x.push(0, 0);
        int[] up = {0, 3, 7, 7};
        for (int n = 0; n <= 3; n++) due(x.run(n, 0), up[n]);
        x = of("place 1;place 1;place 1;2 to 1 by 1;1 to 0 by 1");
        x.push(0, 2);
        int[] down = {0, 6, 7, 7};
        for (int n = 0; n <= 3; n++) due(x.run(n, 0), down[n]);
        // TAKES 0: in the first year; 9: in the tenth, and not ahead of it.
        for (int takes = 0; takes <= 9; takes++) {
            x = of("place 99;place 1 takes " + takes + ";0 to 1 by 1");
            x.push(0, 0);
            for (int n = 1; n <= 12; n++) {
                due(x.run(n, 0), n > takes ? 3 : 1);
                due(x.runOf(n, 1, 0), Math.min(n, takes + 1));
            }
        }
        // 0 is over in a year and falls in the next one: 1 goes in both, by who is over ahead of the fall; then not.
        x = of("back 99 lower 1;place 1 takes 1;0 to 1 by 1");
        for (int year = 0; year < 20; year += 3) x.push(year, 0);
        int[] way = {0, 1, 2, 2};
        for (int n = 0; n <= 3; n++) due(x.runOf(n, 1, 0), way[n]);
        x.change(1, 3, 2);
        int[] ways = {0, 1, 2, 0, 1, 2, 0, 1};
        for (int n = 0; n <= 7; n++) due(x.runOf(n, 1, 0), ways[n]);
        due(x.run(99, 0), 0);
        for (int year = 1; year < 10; year += 3) x.push(year, 0);
        int[] over = {0, 1, 1, 2, 3};
        for (int n = 0; n <= 4; n++) due(x.run(n, 0), over[n]);
        // Over no more: 0 years on its way, as long as it doesn't go again.
        x = of("place 99;back 5 lower 5 takes 1;back 99 lower 1;2 to 1 by 5;0 to 1 by 1");
        x.push(0, 2);
        x.push(1, 2);
        x.push(2, 2);
        int[] years = {0, 1, 2, 2, 2, 0, 0};
        int[] sets = {0, 4, 6, 6, 2, 0, 0};
        for (int n = 0; n <= 6; n++) {
            due(x.runOf(n, 1, 0), years[n]);
            due(x.run(n, 0), sets[n]);
        }
    }

    @Says(promise = 0, words = "At last each DROWN one (of that KIND) that came to be OVER in this YEAR (PUSHED, too) makes the "
        + "PLACE that it SPOILS DROWNED for ever, and OVER no more, 0 YEARS ON ITS WAY (also one that came to be OVER in this "
        + "YEAR, and a DROWN one; all at once).")
    static void drowning() {
        // Of that kind: none else, TOLD least of all, though each may have what it spoils.
        String[] names = {"place", "stay", "back", "company", "drown", "part", "told"};
        for (int kind = 0; kind < 7; kind++) {
            MeltPins x = of(names[kind] + " 99;place 99");
            x.change(0, 7, 1);
            x.push(0, 0);
            x.push(0, 1);
            due(x.run(1, 0), kind == 4 ? 1 : 3);
            due(x.run(1, 1), kind == 4 ? 2 : 0);
            due(x.run(99, 1), kind == 4 ? 2 : 0);
        }
        // Without SPOILS it drowns none.
        MeltPins dry = of("drown 99;place 99;drown 1;0 to 2 by 1");
        dry.push(0, 0);
        due(dry.run(99, 1), 0);
        due(dry.run(99, 0), 5);
        // By its ties: in the year in which it comes to be over; what it spoils is on its way until then, and never again.
        MeltPins x = of("place 99;drown 1 takes 3;place 1 takes 9;0 to 1 by 1;0 to 2 by 1");
        x.change(1, 7, 2);
        x.push(0, 0);
        x.push(9, 2);
        int[] way = {0, 1, 2, 3, 0, 0};
        int[] drowned = {0, 0, 0, 0, 4, 4};
        for (int n = 0; n <= 5; n++) {
            due(x.runOf(n, 2, 0), way[n]);
            due(x.run(n, 1), drowned[n]);
        }
        due(x.run(99, 0), 3);
        due(x.run(99, 1), 4);
        // Whichever place it spoils: no years on its way, and none after that.
        for (int spoilt = 0; spoilt < 12; spoilt++) {
            int from = (spoilt + 1) % 12;
            MeltPins y = new MeltPins();
            for (int place = 0; place < 12; place++) read(y, place == (spoilt + 2) % 12 ? "drown 9" : "place 1 takes 9");
            y.tie(from, spoilt, 1);
            y.change((spoilt + 2) % 12, 7, spoilt);
            y.push(0, from);
            y.push(5, (spoilt + 2) % 12);
            due(y.runOf(5, spoilt, 0), 5);
            due(y.runOf(6, spoilt, 0), 0);
            due(y.runOf(99, spoilt, 0), 0);
            due(y.run(99, 1), 1 << spoilt);
        }
        // One that was over already drowns none when it is pushed again: what it spoils was drowned once for all.
        x = of("drown 99;place 99");
        x.push(0, 0);
        x.push(5, 0);
        x.push(5, 1);
        due(x.run(6, 0), 3);
        x.change(0, 7, 1);
        due(x.run(6, 0), 1);
        drowningAtOnce();
    }

    private static void drowningAtOnce() {
        // Three in a ring, pushed in one year: all are drowned. Two of them: what these spoil.
        MeltPins x = of("drown 99;drown 99;drown 99");
        x.change(0, 7, 1);
        x.change(1, 7, 2);
        x.change(2, 7, 0);
        for (int place = 0; place < 3; place++) x.push(0, place);
        due(x.run(1, 0), 0);
        due(x.run(1, 1), 7);
        due(x.stand(3), 1);
        due(x.stand(6), 2);
        due(x.stand(5), 4);
        due(x.stand(7), 0);
        // One that comes to be over in that year by its ties, and two that spoil one and the same.
        x = of("place 99;drown 99;drown 99;place 1;0 to 3 by 1");
        x.change(1, 7, 3);
        x.change(2, 7, 3);
        x.push(0, 0);
        x.push(0, 1);
        due(x.run(1, 0), 3);
        due(x.runOf(1, 3, 0), 0);
        x.push(0, 2);
        due(x.run(1, 0), 7);
        due(x.run(1, 1), 8);
        // A drowned one that was HELD, and is told to be drowned all the same.
        x.hold(3, true);
        due(x.run(1, 1), 8);
        x.hold(1, true);
        x.hold(2, true);
        due(x.run(1, 1), 0);
        due(x.run(1, 0), 1);
    }

    @Says(promise = 0, words = "Who is OVER stays as many YEARS ON ITS WAY as it was then (PUSHED: as ahead of that).")
    static void yearsOfWhoIsOver() {
        MeltPins x = of("place 99;place 1 takes 9;0 to 1 by 1");
        x.push(0, 0);
        due(x.runOf(9, 1, 0), 9);
        due(x.runOf(10, 1, 0), 10);
        due(x.runOf(11, 1, 0), 10);
        due(x.runOf(99, 1, 0), 10);
        due(x.runOf(99, 0, 0), 0);
        x.push(4, 1);
        due(x.runOf(4, 1, 0), 4);
        due(x.runOf(5, 1, 0), 4);
        due(x.runOf(99, 1, 0), 4);
        // Pushed when it is over already, by its ties or by an earlier push: as ahead of that, too.
        x.clear();
        x.push(0, 0);
        x.push(20, 1);
        due(x.runOf(21, 1, 0), 10);
        x.push(0, 1);
        due(x.runOf(21, 1, 0), 0);
    }

    @Says(promise = 0, words = "A HELD one is never OVER.")
    static void held() {
        MeltPins x = of("place 1;place 1;0 to 1 by 99");
        x.hold(1, true);
        x.push(0, 0);
        x.push(1, 1);
        for (int n = 1; n <= 4; n++) due(x.run(n, 0), 1);
        due(x.runOf(99, 1, 0), 0);
        due(x.runOf(99, 1, 1), 99);
        due(x.when(1), NONE);
        due(x.stand(2), 0);
        due(x.stand(3), 1);
        due(x.late(3), NONE);
    }

    @Says(promise = 0, words = "THE PLAN: PUSHES (at most 20), each of a YEAR (0 to 49) and a PLACE.")
    static void plan() {
        MeltPins x = twelve();
        for (int i = 0; i < 20; i++) due(x.push(i < 12 ? 0 : 49, i % 12), i + 1);
        due(x.push(49, 11), FULL);
        due(x.count(2), 20);
        for (int i = 0; i < 20; i++) {
            due(x.pushOf(i, 0), i < 12 ? 0 : 49);
            due(x.pushOf(i, 1), i % 12);
        }
        taken(Check::twelve, (m, v) -> m.push(v, 3), 0, 49);
        taken(Check::twelve, (m, v) -> m.push(7, v), 0, 11);
    }

    @Says(promise = 0, words = "It begins with nobody OVER, ON ITS WAY, DROWNED, in YEAR 0.")
    static void beginning() {
        MeltPins x = of("drown 1;place 1;place 1 takes 5;0 to 2 by 1");
        x.change(0, 7, 1);
        x.push(0, 0);
        // Each call begins anew, whatever was asked ahead of it.
        for (int i = 0; i < 3; i++) {
            due(x.run(99, 0), 5);
            due(x.run(99, 1), 2);
            due(x.run(0, 0), 0);
            due(x.run(0, 1), 0);
            for (int place = 0; place < 3; place++) {
                due(x.runOf(0, place, 0), 0);
                due(x.runOf(0, place, 1), 0);
            }
            due(x.runOf(3, 2, 0), 3);
            due(x.stand(7), 5);
            due(x.stand(2), 2);
            due(x.when(0), 1);
            due(x.when(2), 6);
        }
    }

    @Says(promise = 0, words = "HELD are PLACES that are told (none at first).")
    static void heldAtFirst() {
        MeltPins x = kinds();
        due(x.count(3), 0);
        for (int place = 0; place < 7; place++) {
            due(x.placeOf(place, 10), 0);
            due(x.hold(place, true), 0);
            due(x.placeOf(place, 10), 1);
            due(x.count(3), place + 1);
        }
        // A new place is HELD no more than one of a new object.
        due(read(x, "place 1"), 8);
        due(x.placeOf(7, 10), 0);
        due(x.count(3), 7);
        due(x.stand(255), 128);
    }

    // ---- 2. texts

    @Says(promise = 0, words = "A TEXT is read from THE TAPE (bytes, at most 120).")
    static void tape() {
        MeltPins x = new MeltPins();
        for (int i = 1; i <= 120; i++) due(x.feed(i == 120 ? '7' : i < 6 ? "place".charAt(i - 1) : ' ', 1), i);
        due(x.feed(' ', 1), FULL);
        due(x.count(4), 120);
        due(x.world(), 1);
        due(x.placeOf(0, 1), 7);
        due(x.count(4), 0);
    }

    @Says(promise = 0, words = "TOKENS, each as long as can be: WORDS (letters a to z), NUMBERS (digits, 9999 at most), SIGN ; ; "
        + "blanks may stand between.")
    static void tokens() {
        // Letters and digits part by themselves, two WORDS or two NUMBERS only by blanks.
        due(read(new MeltPins(), "place7lower3takes2;stay8;1to0by5"), 2);
        due(read(new MeltPins(), "  place   7  lower 3 ; stay 8 ;1 to 0 by 5  "), 2);
        due(fault("place 7 lower3takes2cost5price6chance7chances8"), -39);
        due(fault("placeplace 7"), -1);
        due(fault("pla ce 7"), -1);
        due(fault("place 7 7"), -9);
        due(fault("place 7 lowertakes 3"), -9);
        MeltPins x = two();
        due(read(x, "0 to1by11"), 2);
        due(x.tieOf(0, 1), 11);
        due(read(x, "1 0 by 1"), -3);
        due(read(x, "10 to 0 by 1"), -1);
        // a and z are letters, ` and { , A and Z are none; 0 and 9 are digits, / and : are none.
        due(fault("azaz 1"), -1);
        due(fault("place 7 az"), -9);
        due(fault("place 7 cost`"), -13);
        due(fault("place 7 cost{"), -13);
        due(fault("place 7 cosT 5"), -9);
        due(fault("place 7 costT 5"), -13);
        due(fault("place 7 A"), -9);
        due(fault("place 7 Z"), -9);
        due(fault("placea 7"), -1);
        due(fault("placez 7"), -1);
        due(fault("place 7 costa 5"), -9);
        due(fault("place 7 costz 5"), -9);
        due(fault("a".repeat(120)), -1);
        due(fault("place " + "9".repeat(114)), -7);
        due(read(new MeltPins(), "place " + "0".repeat(113) + "9"), 1);
        due(fault("place 7/"), -8);
        due(fault("place 7:"), -8);
        due(fault("place /7"), -7);
        due(fault("place :7"), -7);
        due(read(new MeltPins(), "place 09 cost 90 price 09"), 1);
        // 9999 is a NUMBER as 99 is one, and none of those that may stand there; neither is one above it.
        due(fault("place 9999"), -7);
        due(fault("place 10000"), -7);
        due(fault("place 99990001"), -7);
        due(fault("place 7 cost 10001"), -14);
        due(fault("place 7 takes 65536"), -15);
        due(fault("place 7 takes 4294967296"), -15);
        due(read(x, "1 to 9999 by 1"), -6);
        due(read(x, "1 to 10000 by 1"), -6);
        due(read(x, "1 to 4294967296 by 1"), -6);
        due(read(x, "4294967297 to 0 by 1"), -1);
        // No blanks but the blank; and a byte of each other sort begins no TOKEN.
        int[] bytes = {0, 9, 10, 13, 31, 33, 34, '-', '+', '.', ',', '<', '@', '[', 127, 128, 160, 255};
        for (int sign : bytes) {
            due(fault((char) sign + "place 7"), -1);
            due(fault("place" + (char) sign + "7"), -6);
            due(fault("place 7" + (char) sign), -8);
        }
    }

    @Says(promise = 0, words = "WORDS (letters a to z), NUMBERS (digits")
    static void eachLetter() {
        String[] kinds = {"place", "stay", "back", "company", "drown", "part", "told"};
        for (String word : kinds) {
            for (String other : others(word)) due(fault(other + " 5"), -1);
            due(of(word + " 5").count(0), 1);
        }
        for (String word : new String[] {"lower", "takes", "cost", "price", "chance"}) {
            for (String other : others(word)) due(fault("stay 5 " + other + " 5"), -8);
            due(of("stay 5 " + word + " 5").count(0), 1);
        }
        MeltPins x = two();
        for (String other : others("to")) due(read(x, "0 " + other + " 1 by 1"), -3);
        for (String other : others("by")) due(read(x, "0 to 1 " + other + " 1"), -8);
        due(x.count(1), 0);
        // What an earlier text had behind the end of this one is no part of it.
        x = new MeltPins();
        feed(x, "placex 5");
        x.wipe();
        due(read(x, "place"), -6);
        feed(x, "place 55");
        x.wipe();
        due(read(x, "place 5"), 1);
        due(x.placeOf(0, 1), 5);
    }

    /** A word with one letter other than it is, one more, one less. */
    private static java.util.List<String> others(String word) {
        java.util.List<String> all = new java.util.ArrayList<>();
        for (int i = 0; i < word.length(); i++) {
            for (String sign : new String[] {"q", "a", "z"}) {
                String other = word.substring(0, i) + sign + word.substring(i + 1);
                if (!other.equals(word)) all.add(other);
            }
            if (i > 0) all.add(word.substring(0, i));
            if (i > 0) all.add(word.substring(i));
        }
        all.add(word + "s");
        all.add("s" + word);
        return all;
    }

    @Says(promise = 0, words = "TEXT: ITEM { ; ITEM }.")
    static void textOfItems() {
        due(fault(""), -1);
        due(fault(";"), -1);
        due(read(new MeltPins(), "stay 1"), 1);
        due(read(new MeltPins(), "stay 1;stay 2"), 2);
        due(read(new MeltPins(), "stay 1;stay 2;1 to 0 by 3;stay 4;0 to 2 by 5"), 3);
        due(fault("stay 1 stay 2"), -8);
        due(fault(";stay 1"), -1);
        due(fault("stay 1;;stay 2"), -8);
        due(fault("stay 1;"), -8);
        due(fault("stay 1;stay 2;"), -15);
        due(fault("stay 1;stay 2;0 to 1 by 3 0 to 1 by 4"), -27);
        // As many items as 120 bytes have room for.
        MeltPins x = of("told 1;told 1;told 1;told 1;told 1;told 1;told 1;told 1;told 1;told 1;told 1;told 1;0to1by1;0to2by1;0to3by1");
        due(x.count(0), 12);
        due(x.count(1), 3);
        due(read(x, "1to0by1;1to2by1;1to3by1;1to4by1;1to5by1;1to6by1;1to7by1;1to8by1;1to9by1;2to0by1;2to1by1;2to3by1;2to4by1;2to5by1;2to6by1"), 12);
        due(x.count(1), 18);
    }

    @Says(promise = 0, words = "ITEM: a kind (place, stay, back, company, drown, part, told), a NUMBER (1 to 99: its BAR), and any of: "
        + "lower, a NUMBER (0 to 99); takes, a NUMBER (0 to 9); cost, a NUMBER (1 to 99); price, a NUMBER (1 to 99); chance, a NUMBER "
        + "(0 to 10) (without them 0, 0, 1, 1, 0; of each WORD the last one counts; SPOILS none): a new PLACE;")
    static void itemOfAPlace() {
        String[] names = {"place", "stay", "back", "company", "drown", "part", "told"};
        for (int kind = 0; kind < 7; kind++) {
            for (int bar : new int[] {1, 99}) {
                MeltPins x = of(names[kind] + " " + bar);
                int[] row = {kind, bar, 0, 0, 1, 1, 0, -1, 0};
                for (int what = 0; what <= 8; what++) due(x.placeOf(0, what), row[what]);
                due(x.placeOf(0, 10), 0);
                due(x.count(0), 1);
            }
            int at = names[kind].length() + 1;
            due(fault(names[kind] + " 0"), -1 - at);
            due(fault(names[kind] + " 100"), -1 - at);
            due(fault(names[kind]), -at);
        }
        String[] words = {"lower", "takes", "cost", "price", "chance"};
        int[] low = {0, 0, 1, 1, 0};
        int[] high = {99, 9, 99, 99, 10};
        int[] without = {0, 0, 1, 1, 0};
        for (int i = 0; i < 5; i++) {
            String head = "place 5 " + words[i];
            for (int v : new int[] {low[i], high[i]}) {
                MeltPins x = of(head + " " + v);
                for (int j = 0; j < 5; j++) due(x.placeOf(0, 2 + j), j == i ? v : without[j]);
                due(of(head + " " + v + " " + words[i] + " " + (low[i] + 1)).placeOf(0, 2 + i), low[i] + 1);
                due(of(head + " " + high[i] + " " + words[i] + " 3 " + words[i] + " " + v).placeOf(0, 2 + i), v);
            }
            due(fault(head + " " + (high[i] + 1)), -2 - head.length());
            if (low[i] == 1) due(fault(head + " 0"), -2 - head.length());
            due(fault(head), -1 - head.length());
            due(fault(head + ";"), -1 - head.length());
            due(fault(head + " " + words[i] + " 5"), -2 - head.length());
            // The last one counts, but none may be other than told.
            due(fault(head + " " + (high[i] + 1) + " " + words[i] + " 5"), -2 - head.length());
        }
        // In any order, and in another place than the last one.
        MeltPins x = of("part 5 chance 6 price 7 cost 8 takes 9 lower 4;back 3");
        int[] row = {5, 5, 4, 9, 8, 7, 6, -1, 0};
        for (int what = 0; what <= 8; what++) due(x.placeOf(0, what), row[what]);
        int[] plain = {2, 3, 0, 0, 1, 1, 0, -1, 0};
        for (int what = 0; what <= 8; what++) due(x.placeOf(1, what), plain[what]);
        // What was at its number ahead of an undo() is not told to it.
        x = of("place 9");
        x.image();
        read(x, "drown 9 lower 9 takes 9 cost 9 price 9 chance 9");
        x.change(1, 7, 0);
        x.step(1);
        x.hold(1, true);
        x.undo();
        due(read(x, "back 3"), 2);
        for (int what = 0; what <= 8; what++) due(x.placeOf(1, what), plain[what]);
        due(x.placeOf(1, 10), 0);
    }

    @Says(promise = 0, words = "or a NUMBER (a PLACE that there is by then), to, a NUMBER (another such one, to which there is no TIE "
        + "from it by then), by, a NUMBER (1 to 99): a TIE.")
    static void itemOfATie() {
        for (int part : new int[] {1, 99}) {
            MeltPins x = two();
            due(read(x, "1 to 0 by " + part), 2);
            due(x.tieOf(1, 0), part);
            due(x.tieOf(0, 1), 0);
            due(x.count(1), 1);
        }
        MeltPins x = two();
        due(read(x, "1 to 0 by 0"), -11);
        due(read(x, "1 to 0 by 100"), -11);
        due(read(x, "2 to 0 by 5"), -1);
        due(read(x, "1 to 2 by 5"), -6);
        due(read(x, "1 to 1 by 5"), -6);
        due(read(x, "0 to 0 by 5"), -6);
        due(x.count(1), 0);
        // By then: of that text, too, but not by a later item of it.
        due(fault("place 5;0 to 1 by 5;place 5"), -14);
        due(fault("1 to 0 by 5;place 5;place 5"), -1);
        due(read(x, "place 5;2 to 1 by 5"), 3);
        due(x.tieOf(2, 1), 5);
        due(read(x, "2 to 1 by 5"), -6);
        due(read(x, "1 to 2 by 5;1 to 2 by 5"), -18);
        due(read(x, "1 to 2 by 5"), 3);
        // What is cut is none any more.
        x.cut(2, 1);
        due(read(x, "2 to 1 by 6"), 3);
        due(x.tieOf(2, 1), 6);
        x = twelve();
        due(read(x, "11 to 0 by 9;0 to 11 by 8"), 12);
        due(x.tieOf(11, 0), 9);
        due(x.tieOf(0, 11), 8);
        due(read(x, "12 to 0 by 9"), -1);
        due(read(x, "10 to 12 by 9"), -7);
        due(fault("0 to 1 by 1"), -1);
    }

    @Says(promise = 0, words = "FAULT: the place (from 0) of the first byte of the first TOKEN that can't stand there (a NUMBER that "
        + "isn't as told, another WORD, a byte that begins no TOKEN: its own; a kind, a NUMBER for which there is no room: a 13th "
        + "PLACE, a 41st TIE's first NUMBER), or how many bytes there are if it ends too early.")
    static void faults() {
        // The first of several, and its first byte, whatever of it is right.
        due(fault("place 100 lover 100"), -7);
        due(fault("place 5 lover 100"), -9);
        due(fault("place 5 lower 100;ice"), -15);
        due(fault("place 5;ice 100"), -9);
        due(fault("place 5;#"), -9);
        due(fault("place 5 #lower"), -9);
        due(fault("to 5"), -1);
        due(fault("by"), -1);
        due(fault("place to"), -7);
        due(fault("place 5 by 5"), -9);
        due(fault("place ;"), -7);
        due(fault("placed 5"), -1);
        MeltPins x = two();
        due(read(x, "0 by 1"), -3);
        due(read(x, "0;1"), -2);
        due(read(x, "0 place 5"), -3);
        due(read(x, "0 to place"), -6);
        due(read(x, "0 to 1 to 1"), -8);
        due(read(x, "0 to 1 by ;"), -11);
        due(read(x, "0 to 1 by 5 by 5"), -13);
        due(read(x, "0 to 1 by 5 6"), -13);
        due(read(x, "0 to 0 by 100"), -6);
        // Too early: how many bytes there are, blanks, too.
        String[] early = {"0", "0 ", "0 to", "0 to ", "0 to 1", "0 to 1 by", "0 to 1 by   ", "0 to 1 by 5;", "place", "place ",
            "place 5 cost", "place 5;", "place 5 ;  ", "", " ", "    "};
        for (String text : early) due(read(x, text), -1 - text.length());
        due(read(x, " ".repeat(120)), -121);
        due(read(x, "place" + " ".repeat(115)), -121);
        due(read(x, "place 5" + " ".repeat(112) + ";"), -121);
        due(read(x, "place 5" + " ".repeat(112) + "#"), -120);
        due(read(x, " ".repeat(119) + "#"), -120);
        due(x.count(0), 2);
        due(x.count(1), 0);
        due(x.status(-1), 0);
        // A 13th place, by its kind; a 41st tie, by its first number, also where that is none of a place.
        x = twelve();
        due(read(x, "place 5"), -1);
        due(read(x, "ice 5"), -1);
        due(read(x, " told 100"), -2);
        due(read(x, "0 to 1 by 1;company 1"), -13);
        x = of("place 1;place 1;place 1;place 1;place 1;place 1", "place 1;place 1;place 1;place 1;place 1");
        due(read(x, "stay 1; stay 1"), -9);
        due(x.count(0), 11);
        due(read(x, "stay 1"), 12);
        x = forty();
        due(read(x, "11 to 0 by 1"), -1);
        due(read(x, " 11 at 0"), -2);
        due(read(x, "0 to 11 by 1"), -1);
        due(read(x, "12 to 0 by 1"), -1);
        x.cut(0, 11);
        x.cut(0, 10);
        due(read(x, "0 to 11 by 1;0 to 10 by 1;0 to 1 by 1"), -27);
        due(x.count(1), 38);
        due(read(x, "0 to 11 by 1;0 to 10 by 1"), 12);
        due(x.count(1), 40);
        // With twelve places a tie is still taken, with forty ties a place.
        x.cut(3, 11);
        due(read(x, "11 to 3 by 1"), 12);
        x = of("place 1;place 1;place 1;place 1;place 1;place 1;place 1");
        for (int i = 0; i < 40; i++) x.tie(i / 6, i % 6 < i / 6 ? i % 6 : i % 6 + 1, 1);
        due(x.count(1), 40);
        due(read(x, "place 1;6 to 5 by 1"), -9);
        due(read(x, "place 1"), 8);
    }

    // ---- 3. what is asked

    @Says(promise = 0, words = "STAND of a set of PLACES: who is OVER behind 24 YEARS, if just these are PUSHED in YEAR 0 "
        + "(THE PLAN not; HELD ones as told).")
    static void standOfASet() {
        MeltPins x = twentyFour();
        due(x.stand(1), 15);
        x.change(3, 3, 4);
        due(x.stand(1), 7);
        x.change(2, 3, 8);
        due(x.stand(1), 15);
        // What falls behind 24 years, and not ahead of it: 0 is over in each third year, from the first on.
        x = threeInTurn();
        due(x.stand(1), 5);
        due(x.stand(4), 6);
        due(x.stand(0), 0);
        x.push(0, 1);
        x.push(23, 2);
        due(x.stand(1), 5);
        x.hold(2, true);
        due(x.stand(1), 0);
        due(x.stand(5), 0);
        due(x.count(2), 2);
        due(x.count(3), 1);
    }

    @Says(promise = 0, words = "ALL: each PLACE is OVER.")
    static void all() {
        MeltPins x = twelve();
        due(x.late(4095), 1);
        for (int place = 0; place < 12; place++) due(x.late(4095 - (1 << place)), NONE);
        due(x.fewest(0), 4095);
        due(new MeltPins().late(0), 1);
        // A HELD one, a DROWNED one, too.
        x.hold(11, true);
        due(x.late(4095), NONE);
        due(x.fewest(0), NONE);
        x = of("drown 9;place 9");
        due(x.late(3), 1);
        x.change(0, 7, 1);
        due(x.late(3), NONE);
        due(x.cheapest(0), NONE);
    }

    @Says(promise = 0, words = "LATE of a set: behind how many YEARS (1 to 24) ALL are OVER for the first time, if it is PUSHED so.")
    static void lateOfASet() {
        MeltPins x = twentyFour();
        due(x.late(1), 24);
        due(x.late(3), 14);
        due(x.late(15), 1);
        x.change(3, 3, 4);
        due(x.late(1), NONE);
        due(x.late(3), 15);
        x = of("back 9 lower 1;place 1 takes 1;0 to 1 by 1");
        due(x.late(1), NONE);
        due(x.late(3), 1);
    }

    @Says(promise = 0, words = "MUST: PLACES that aren't OVER in a YEAR unless they are PUSHED, as they GET less than their HEIGHT "
        + "from all others together.")
    static void mustOfAWorld() {
        MeltPins x = of("place 5;place 5;told 11;part 25;place 1;1 to 0 by 2;2 to 0 by 2;0 to 2 by 5;0 to 3 by 14");
        due(x.must(), 1 + 2 + 8 + 16);
        x.step(3);
        due(x.must(), 1 + 2 + 8 + 16);
        x.tie(0, 3, 15);
        due(x.must(), 1 + 2 + 16);
        x.tie(1, 0, 3);
        due(x.must(), 2 + 16);
        x.tie(0, 2, 4);
        due(x.must(), 2 + 4 + 16);
        x.tie(3, 4, 1);
        due(x.must(), 2 + 4);
        // From all others: the HELD ones, too.
        x.hold(1, true);
        due(x.must(), 2 + 4);
    }

    @Says(promise = 0, words = "DRAWS: z is told (1 at first); each makes it z * 1103515245 + 12345 (an int), and gives z >>> 8.")
    static void draws() {
        // From 1 on, wrapped around: what the formula gives in ints, worked out in longs.
        MeltPins x = of("place 1 chance 5");
        long z = 1;
        for (int i = 0; i < 60; i++) {
            due(x.count(5), (int) z);
            long next = (z * 1103515245L + 12345L) & 0xffffffffL;
            due(x.century(1), (next >> 8) % 10 < 5 ? 1 : 0);
            z = next;
        }
        due(of("place 1").count(5), 1);
        for (int seed : new int[] {MIN, MAX, -1, 0}) {
            x.seed(seed);
            long next = ((seed & 0xffffffffL) * 1103515245L + 12345L) & 0xffffffffL;
            due(x.century(1), (next >> 8) % 10 < 5 ? 1 : 0);
            due(x.count(5), (int) next);
        }
    }

    @Says(promise = 0, words = "SPOTS 0 to 9 hold a PLACE or nothing (at first).")
    static void spots() {
        MeltPins x = twelve();
        due(x.count(6), 0);
        for (int spot = 0; spot < 10; spot++) due(x.as(spot, 0), MISSING);
        for (int spot = 0; spot < 10; spot++) due(x.spot(spot, 11 - spot), 1);
        due(x.count(6), 10);
        for (int spot = 0; spot < 10; spot++) due(x.as(spot, 0), 11 - spot);
        taken(Check::twelve, (m, v) -> m.spot(v, 3), 0, 9);
    }

    @Says(promise = 0, words = "SHEETS 0 to 3: rows of at most 40 numbers of 8, 16 or 32 bits (told with their sign: of 8 bits 255 "
        + "is -1), or MISSING (at first).")
    static void sheets() {
        for (int s = 0; s < 4; s++) {
            due(new MeltPins().judge(s), MISSING);
            due(new MeltPins().first(s), MISSING);
            due(new MeltPins().write(s, 0, 0), MISSING);
        }
        for (int bits : new int[] {8, 16, 32}) taken(Check::empty, (m, v) -> m.sheet(3, bits, v), 0, 40, SIZE, BEYOND);
        taken(Check::empty, (m, v) -> m.sheet(v, 8, 3), 0, 3);
        // With n over, a number that is n, but for its sign or what is above its bits, is told as n or not.
        long[][] told = {{8, 1, 1}, {8, 257, 1}, {8, -255, 1}, {8, 255, 0}, {8, -1, 0}, {8, 129, 0}, {8, 0x101, 1}, {8, 0x10001, 1},
            {16, 1, 1}, {16, 257, 0}, {16, 65537, 1}, {16, -65535, 1}, {16, 65535, 0}, {16, 32769, 0},
            {32, 1, 1}, {32, 257, 0}, {32, 65537, 0}, {32, MIN + 1, 0}, {32, MAX, 0}, {32, -1, 0}};
        MeltPins x = of("place 1");
        x.push(0, 0);
        for (long[] row : told) {
            x.sheet(1, (int) row[0], 1);
            due(x.write(1, 0, (int) row[1]), 1);
            due(x.judge(1), row[2] == 1 ? 0 : 1);
        }
    }

    // ---- the interface

    @Says(promise = 0, words = {
        "Ahead of the calls `feed`, `wipe`, `world`, `placeOf`, `change`, `step`, `tie`, `tieOf`, `cut`, `hold` the interface says: ---- the world.",
        "Ahead of the calls `push`, `pushOf`, `clear`, `run`, `runOf`, `when`, `settles` the interface says: ---- the plan.",
        "Ahead of the calls `stand`, `late`, `fewest`, `cheapest`, `most`, `must`, `order`, `stop`, `near`, `look`, `edge` the interface says: ---- sets.",
        "Ahead of the calls `likely`, `century`, `seed`, `game` the interface says: ---- chances, two.",
        "Ahead of the calls `first`, `judge` the interface says: ---- layers.",
        "Ahead of the calls `spot`, `as`, `sheet`, `write`, `copy` the interface says: ---- spots, sheets.",
        "Ahead of the calls `image`, `undo`, `tear`, `count`, `status` the interface says: ---- images."})
    static void partsOfTheInterface() throws Exception {
        String source = Files.readString(Path.of("src/main/java/MeltPins.java"));
        String[] order = {"// ---- the world\n", "feed", "wipe", "world", "placeOf", "change", "step", "tie", "tieOf", "cut", "hold",
            "// ---- the plan\n", "push", "pushOf", "clear", "run", "runOf", "when", "settles",
            "// ---- sets\n", "stand", "late", "fewest", "cheapest", "most", "must", "order", "stop", "near", "look", "edge",
            "// ---- chances, two\n", "likely", "century", "seed", "game", "// ---- layers\n", "first", "judge",
            "// ---- spots, sheets\n", "spot", "as", "sheet", "write", "copy",
            "// ---- images\n", "image", "undo", "tear", "count", "status"};
        int at = 0;
        for (String each : order) {
            String type = each.equals("likely") ? "long " : "int ";
            int found = source.indexOf(each.startsWith("//") ? each : "public " + type + each + "(", at);
            due(found > at ? 1 : 0, 1);
            at = Math.max(at, found);
        }
    }
}
