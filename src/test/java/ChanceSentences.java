/** Promises 30 to 35, sentence by sentence. */
final class ChanceSentences extends Check {

    @Says(promise = 30, words = "How likely STAND is ALL, if each PLACE is PUSHED in YEAR 0 by its CHANCE, by itself: above 10 to the "
        + "power of how many PLACES there are.")
    static void likely() {
        due(new MeltPins().likely(), 1);
        for (int chance = 0; chance <= 10; chance++) {
            MeltPins x = of("place 1 chance " + chance);
            due(x.likely(), chance);
            x.hold(0, true);
            due(x.likely(), 0);
            x = of("place 1 chance " + chance + ";place 1 chance 3;0 to 1 by 1");
            due(x.likely(), 10 * chance);
            x.tie(1, 0, 1);
            due(x.likely(), 100 - (10 - chance) * 7);
            x.cut(0, 1);
            due(x.likely(), 30);
            x.cut(1, 0);
            due(x.likely(), 3 * chance);
        }
        // Twelve: from 0 to 10 to the twelfth, in longs.
        MeltPins x = twelve();
        due(x.likely(), 0);
        for (int place = 0; place < 12; place++) x.change(place, 6, 10);
        due(x.likely(), 1000000000000L);
        for (int place = 0; place < 12; place++) x.change(place, 6, 1);
        due(x.likely(), 1);
        for (int place = 0; place < 12; place++) x.change(place, 6, 9);
        due(x.likely(), 282429536481L);
        x = forty();
        due(x.likely(), 0);
        x.change(0, 6, 3);
        due(x.likely(), 300000000000L);
        x.change(11, 6, 7);
        due(x.likely(), 300000000000L);
        // STAND: behind 24 years, not ahead of it. THE PLAN doesn't count, z stays.
        x = twentyFour();
        x.change(0, 6, 10);
        x.push(0, 3);
        due(x.likely(), 10000);
        x.change(3, 3, 4);
        due(x.likely(), 0);
        due(of("back 9 lower 1 chance 10").likely(), 0);
        due(x.count(5), 1);
        due(x.status(-1), 0);
    }

    @Says(promise = 31, words = "Of n (1 to 50) times, in each of which each PLACE, by numbers, draws, and is PUSHED in YEAR 0, if the rest "
        + "of that by 10 is below its CHANCE: how many come to ALL.")
    static void century() {
        // One place: n draws, each of which is 0 to 9.
        for (int chance = 0; chance <= 10; chance++) {
            MeltPins x = of("place 9 chance " + chance);
            int come = 0;
            int z = 1;
            for (int i = 0; i < 50; i++) {
                z = z * 1103515245 + 12345;
                if ((z >>> 8) % 10 < chance) come++;
            }
            due(x.century(50), come);
            due(x.count(5), z);
            if (chance == 0) due(come, 0);
            if (chance == 10) due(come, 50);
        }
        // Each of them draws, by numbers, also one that is HELD and one without a chance.
        for (int n : new int[] {1, 2, 49, 50}) {
            MeltPins x = of("place 9;place 9 chance 4;place 1 chance 7;1 to 0 by 9;2 to 0 by 9;1 to 2 by 1");
            int z = -7;
            x.seed(z);
            int come = 0;
            for (int i = 0; i < n; i++) {
                int[] drawn = new int[3];
                for (int place = 0; place < 3; place++) {
                    z = z * 1103515245 + 12345;
                    drawn[place] = (z >>> 8) % 10;
                }
                if (drawn[1] < 4) come++;
            }
            due(x.century(n), come);
            due(x.count(5), z);
            x.seed(-7);
            x.hold(0, true);
            due(x.century(n), 0);
            due(x.count(5), z);
            due(x.status(-1), 0);
        }
        // Without PLACES ALL are OVER each time, and none draws; STAND counts, THE PLAN doesn't.
        MeltPins x = new MeltPins();
        due(x.century(1), 1);
        due(x.century(50), 50);
        due(x.count(5), 1);
        due(of("back 9 lower 1 chance 10").century(50), 0);
        x = two();
        x.push(0, 0);
        x.push(0, 1);
        due(x.century(50), 0);
        x = twelve();
        int z = 1;
        for (int i = 0; i < 600; i++) z = z * 1103515245 + 12345;
        due(x.century(50), 0);
        due(x.count(5), z);
    }

    @Says(promise = 31, words = "BEYOND.")
    static void centuryBeyond() {
        taken(Check::empty, (x, v) -> x.century(v), 1, 50);
        taken(Check::two, (x, v) -> x.century(v), 1, 50);
        refused(Check::full, x -> x.century(0), BEYOND);
        refused(Check::full, x -> x.century(51), BEYOND);
    }

    @Says(promise = 32, words = "z becomes v: what it was.")
    static void seed() {
        MeltPins x = of("place 1 chance 5");
        due(x.seed(MIN), 1);
        due(x.seed(MAX), MIN);
        due(x.seed(0), MAX);
        due(x.seed(-1), 0);
        due(x.count(5), -1);
        due(x.century(1), (((-1 * 1103515245 + 12345) >>> 8) % 10 < 5) ? 1 : 0);
        due(x.seed(1), -1 * 1103515245 + 12345);
        due(x.century(1), 1);
        due(x.seed(1), 1103527590);
        due(x.century(1), 1);
        due(x.status(-1), 0);
    }

    @Says(promise = 33, words = "TWO TAKE TURNS, n (1, 2) times each: the one tells a PLACE to be PUSHED in YEAR 0, the other one a PLACE "
        + "to be HELD (besides; neither takes one that was taken, or is HELD; one who has none left takes nothing); behind all turns STAND "
        + "of those that are PUSHED counts: how many are OVER. The one wants as many as can be, the other one as few: what 0 how many come "
        + "of it, 1 the one's first PLACE (the least of several; -1: none).")
    static void game() {
        // Isles: each place that is pushed is one; with an odd number of them the one takes the last.
        for (int places = 1; places <= 12; places++) {
            MeltPins x = new MeltPins();
            for (int i = 0; i < places; i++) read(x, "place 9");
            due(x.game(1, 0), 1);
            due(x.game(1, 1), 0);
            due(x.game(2, 0), places >= 3 ? 2 : 1);
            due(x.game(2, 1), 0);
            x.push(0, 0);
            due(x.game(1, 0), 1);
        }
        for (int n = 1; n <= 2; n++) {
            due(new MeltPins().game(n, 0), 0);
            due(new MeltPins().game(n, 1), -1);
        }
        // All are HELD: none can be taken. All but one: the other one takes nothing.
        MeltPins x = of("place 9;place 9;place 9;2 to 0 by 9;2 to 1 by 9");
        due(x.game(1, 0), 2);
        due(x.game(1, 1), 2);
        x.hold(2, true);
        due(x.game(1, 0), 1);
        due(x.game(1, 1), 0);
        x.hold(0, true);
        due(x.game(2, 0), 1);
        due(x.game(2, 1), 1);
        x.hold(1, true);
        due(x.game(2, 0), 0);
        due(x.game(2, 1), -1);
        due(x.game(1, 1), -1);
        due(x.count(3), 3);
        due(x.count(2), 0);
        // The other one holds one that the one would take next: 3 needs 0 and 1, and is held or lacks one of them.
        x = of("place 9;place 9;place 9;place 2;0 to 3 by 1;1 to 3 by 1");
        due(x.game(2, 0), 2);
        due(x.game(2, 1), 0);
        // One who brings none is worth as much as one who brings one that is held then.
        x = of("place 9;place 1;place 9;0 to 1 by 1");
        due(x.game(1, 0), 1);
        due(x.game(1, 1), 0);
        // Of two it brings one can be held only.
        x = of("place 9;place 9;place 1;place 1;1 to 2 by 1;1 to 3 by 1");
        due(x.game(1, 0), 2);
        due(x.game(1, 1), 1);
        due(x.game(2, 0), 2);
        due(x.game(2, 1), 0);
        // 1 needs 0 or 2 beside it, and the other one can't hold both: 0 or 2 is pushed second.
        x = of("place 99;place 99;place 99;place 2;place 2;place 2;place 2;0 to 3 by 1;1 to 3 by 1;0 to 4 by 1;1 to 4 by 1",
            "1 to 5 by 1;2 to 5 by 1;1 to 6 by 1;2 to 6 by 1");
        due(x.game(2, 0), 3);
        due(x.game(2, 1), 1);
        // With 0 pushed and 1 held there is but one of 2, 3, 4 to push, that drowns 0 ahead of the two others' time.
        x = of("place 99;place 99;drown 1 takes 1;drown 1 takes 1;drown 1 takes 1;0 to 2 by 1;0 to 3 by 1;0 to 4 by 1");
        for (int place = 2; place <= 4; place++) x.change(place, 7, 0);
        due(x.stand(1), 28);
        due(x.stand(5), 4);
        due(x.game(2, 0), 2);
        due(x.game(2, 1), 1);
        // Pushing may be worse than having none: 0 drowns 1, and is over itself.
        x = of("drown 9;place 9");
        x.change(0, 7, 1);
        due(x.game(1, 0), 1);
        due(x.game(1, 1), 0);
        // A place that falls is none: all the same to the one, who takes the least.
        due(of("back 9 lower 1;back 9 lower 1").game(1, 0), 0);
        due(of("back 9 lower 1;back 9 lower 1").game(1, 1), 0);
        due(of("back 9 lower 1;place 9").game(1, 1), 1);
        due(of("back 9 lower 1;place 9").game(2, 0), 1);
        due(of("back 9 lower 1;place 9").game(2, 1), 1);
        due(x.status(-1), 0);
    }

    @Says(promise = 33, words = "BEYOND.")
    static void gameBeyond() {
        taken(Check::two, (x, v) -> x.game(v, 0), 1, 2);
        taken(Check::empty, (x, v) -> x.game(v, 1), 1, 2);
        taken(Check::two, (x, v) -> x.game(1, v), 0, 1);
        taken(Check::empty, (x, v) -> x.game(2, v), 0, 1);
    }

    @Says(promise = 34, words = "By a sheet whose numbers are, by PLACES, behind how many YEARS each was OVER for the first time (0: never "
        + "in 24): the set of fewest PLACES that, PUSHED in YEAR 0, brings just these.")
    static void first() {
        MeltPins x = twentyFour();
        int[][] sheets = {{1, 10, 20, 24}, {0, 1, 10, 14}, {0, 0, 1, 4}, {0, 0, 0, 1}, {0, 0, 0, 0}, {1, 1, 1, 1}, {1, 10, 20, 1}};
        int[] sets = {1, 2, 4, 8, 0, 15, 9};
        for (int i = 0; i < 7; i++) {
            for (int bits : new int[] {8, 16, 32}) {
                sheetOf(x, 2, bits, sheets[i]);
                due(x.first(2), sets[i]);
            }
        }
        // In 24 years, not in 25.
        x.change(3, 3, 4);
        sheetOf(x, 2, 8, 1, 10, 20, 24);
        due(x.first(2), NONE);
        sheetOf(x, 2, 8, 1, 10, 20, 25);
        due(x.first(2), NONE);
        sheetOf(x, 2, 8, 1, 10, 20, 0);
        due(x.first(2), 1);
        // The fewest, and of these the least; THE PLAN doesn't count, HELD ones do.
        x = of("place 1;place 1;place 1;0 to 1 by 1;1 to 2 by 1;2 to 0 by 1");
        sheetOf(x, 0, 8, 1, 1, 1);
        due(x.first(0), 3);
        x.push(0, 2);
        due(x.first(0), 3);
        sheetOf(x, 0, 8, 1, 1, 0);
        due(x.first(0), NONE);
        x.hold(2, true);
        due(x.first(0), 1);
        // For the first time, whether they fall then or not; a DROWNED one never was.
        x = of("back 9 lower 1;back 1 lower 1;drown 9;0 to 1 by 1");
        sheetOf(x, 0, 8, 1, 1, 0);
        due(x.first(0), 1);
        sheetOf(x, 0, 8, 1, 1, 1);
        due(x.first(0), 5);
        x.change(2, 7, 1);
        due(x.first(0), NONE);
        sheetOf(x, 0, 8, 1, 0, 1);
        due(x.first(0), 5);
        // No PLACES and no numbers; twelve of each.
        x = new MeltPins();
        x.sheet(3, 32, 0);
        due(x.first(3), 0);
        x = twelve();
        row(x, 0, 8, 12, 1);
        due(x.first(0), 4095);
        row(x, 0, 8, 12, 0);
        due(x.first(0), 0);
        x = forty();
        sheetOf(x, 0, 8, 1, 2, 1, 1, 1, 1, 1, 1, 1, 1, 1, 1);
        due(x.first(0), 1);
        x.write(0, 1, 1);
        due(x.first(0), 3);
        x.write(0, 0, 0);
        due(x.first(0), 2);
        due(x.status(-1), 0);
    }

    @Says(promise = 34, words = "BEYOND: no such sheet.")
    static void firstOfNoSheet() {
        taken(() -> sheetsOf(2), (x, v) -> x.first(v), 0, 3);
        for (int s : new int[] {-1, 4, MIN, MAX}) {
            refused(Check::empty, x -> x.first(s), BEYOND);
            refused(Check::full, x -> x.first(s), BEYOND);
        }
    }

    @Says(promise = 34, words = "MISSING.")
    static void firstOfAMissingSheet() {
        for (int s = 0; s <= 3; s++) {
            int one = s;
            refused(Check::empty, x -> x.first(one), MISSING);
            refused(Check::two, x -> x.first(one), MISSING);
            takes(() -> sheetsOf(2), x -> x.first(one));
            refused(() -> {
                MeltPins x = sheetsOf(2);
                x.sheet(one, 0, 2);
                return x;
            }, x -> x.first(one), MISSING);
        }
    }

    /** Two places, and four sheets of n zeros. */
    private static MeltPins sheetsOf(int n) {
        MeltPins x = two();
        for (int s = 0; s <= 3; s++) x.sheet(s, 8, n);
        return x;
    }

    @Says(promise = 34, words = "NONE (also, if it has not as many numbers as there are PLACES).")
    static void firstNone() {
        for (int n : new int[] {0, 1, 3, 39, 40}) refused(() -> sheetsOf(n), x -> x.first(1), NONE);
        refused(() -> {
            MeltPins x = new MeltPins();
            x.sheet(1, 8, 1);
            return x;
        }, x -> x.first(1), NONE);
        int[][] never = {{2, 0}, {0, 25}, {-1, 0}, {1, 2}, {0, 127}, {24, 24}};
        for (int[] numbers : never) {
            refused(() -> {
                MeltPins x = two();
                sheetOf(x, 1, 8, numbers);
                return x;
            }, x -> x.first(1), NONE);
        }
        takes(() -> sheetsOf(2), x -> x.first(1));
    }

    @Says(promise = 35, words = "THE READER: numbers of a sheet are how many are OVER behind 1, 2, .. YEARS of THE PLAN: 0 if all are; "
        + "else 1 and the place of the first that isn't.")
    static void judge() {
        MeltPins x = of("place 1;place 1 takes 2;back 9 lower 1;0 to 1 by 1");
        x.push(1, 0);
        x.push(1, 2);
        int[] right = {0, 2, 1, 2, 2, 2};
        for (int n = 0; n <= 6; n++) {
            sheetOf(x, 0, 16, java.util.Arrays.copyOf(right, n));
            due(x.judge(0), 0);
        }
        for (int i = 0; i < 6; i++) {
            for (int off : new int[] {-1, 1, 256, -256}) {
                sheetOf(x, 0, 16, right);
                x.write(0, i, right[i] + off);
                due(x.judge(0), 1 + i);
                x.write(0, 5, 99);
                due(x.judge(0), 1 + i);
            }
        }
        // The first number is that of YEAR 0.
        x = chain();
        x.push(0, 0);
        sheetOf(x, 0, 8, 1, 1, 1, 1, 1, 1, 1, 1, 1, 2, 2);
        due(x.judge(0), 0);
        x.change(1, 3, 8);
        due(x.judge(0), 9);
        x.change(1, 3, 0);
        due(x.judge(0), 1);
        // Forty numbers: to the last; HELD ones count as told, and a sheet of no numbers is always right.
        x = full();
        for (int s = 0; s <= 2; s++) due(x.judge(s), 0);
        x.write(2, 39, 11);
        due(x.judge(2), 40);
        x.write(2, 0, 11);
        due(x.judge(2), 1);
        x.hold(11, true);
        due(x.judge(0), 1);
        due(x.judge(2), 2);
        row(x, 1, 32, 40, 11);
        due(x.judge(1), 0);
        x.sheet(1, 32, 0);
        due(x.judge(1), 0);
        x = new MeltPins();
        x.sheet(0, 8, 40);
        due(x.judge(0), 0);
        x.write(0, 39, 1);
        due(x.judge(0), 40);
        due(x.status(-1), 0);
    }

    @Says(promise = 35, words = "BEYOND: no such sheet.")
    static void judgeOfNoSheet() {
        taken(() -> sheetsOf(2), (x, v) -> x.judge(v), 0, 3);
        for (int s : new int[] {-1, 4, MIN, MAX}) {
            refused(Check::empty, x -> x.judge(s), BEYOND);
            refused(Check::full, x -> x.judge(s), BEYOND);
        }
    }

    @Says(promise = 35, words = "MISSING.")
    static void judgeOfAMissingSheet() {
        for (int s = 0; s <= 3; s++) {
            int one = s;
            refused(Check::empty, x -> x.judge(one), MISSING);
            takes(() -> sheetsOf(0), x -> x.judge(one));
            takes(() -> sheetsOf(40), x -> x.judge(one));
            refused(() -> {
                MeltPins x = sheetsOf(40);
                x.sheet(one, 0, 40);
                return x;
            }, x -> x.judge(one), MISSING);
        }
    }
}
