/** Promises 19 to 29, sentence by sentence. */
final class SetSentences extends Check {

    // ---- stand

    @Says(promise = 19, words = "STAND of a set.")
    static void stand() {
        MeltPins x = forty();
        due(x.stand(0), 0);
        due(x.stand(1), 4095);
        due(x.stand(2), 4094);
        due(x.stand(16), 16);
        due(x.stand(2048 + 16), 2048 + 16);
        due(x.stand(4095), 4095);
        due(x.status(-1), 0);
        due(new MeltPins().stand(0), 0);
        x = twentyFour();
        due(x.stand(1), 15);
        x.change(3, 3, 4);
        due(x.stand(1), 7);
    }

    @Says(promise = 19, words = "BEYOND.")
    static void standBeyond() {
        taken(Check::two, (x, v) -> x.stand(v), 0, 3);
        taken(Check::twelve, (x, v) -> x.stand(v), 0, 4095);
        taken(Check::empty, (x, v) -> x.stand(v), 0, 0);
        refused(Check::two, x -> x.stand(8), BEYOND);
        refused(Check::two, x -> x.stand(MIN + 1), BEYOND);
    }

    // ---- late

    @Says(promise = 20, words = "LATE of a set.")
    static void late() {
        due(forty().late(1), 2);
        due(forty().late(3), 1);
        due(forty().late(4095), 1);
        due(new MeltPins().late(0), 1);
        due(twentyFour().late(1), 24);
        MeltPins x = two();
        x.push(0, 0);
        x.push(0, 1);
        due(x.late(3), 1);
        due(x.late(1), NONE);
    }

    @Says(promise = 20, words = "BEYOND.")
    static void lateBeyond() {
        for (int v : new int[] {-1, 4, MIN, MAX}) refused(SetSentences::eitherOfTwo, x -> x.late(v), BEYOND);
        for (int v = 1; v <= 3; v++) {
            int set = v;
            takes(SetSentences::eitherOfTwo, x -> x.late(set));
        }
        for (int v : new int[] {-1, 4096, MIN, MAX}) refused(Check::twelve, x -> x.late(v), BEYOND);
        takes(Check::twelve, x -> x.late(4095));
        taken(Check::empty, (x, v) -> x.late(v), 0, 0);
    }

    @Says(promise = 20, words = "NONE.")
    static void lateNone() {
        refused(Check::two, x -> x.late(0), NONE);
        refused(Check::two, x -> x.late(2), NONE);
        refused(Check::twelve, x -> x.late(4094), NONE);
        MeltPins x = twentyFour();
        x.change(3, 3, 4);
        due(x.late(1), NONE);
        x.change(3, 3, 3);
        due(x.late(1), 24);
        x.hold(3, true);
        due(x.late(15), NONE);
    }

    /** Two that bring one another. */
    private static MeltPins eitherOfTwo() {
        return of("place 1;place 1;0 to 1 by 1;1 to 0 by 1");
    }

    // ---- fewest

    /** 0 alone brings all, and so do 1 and 2, at the cost of 4 and 5. */
    private static MeltPins oneOrTwo(int cost) {
        MeltPins x = of("place 5;place 1 cost 4;place 1 cost 5;0 to 1 by 1;0 to 2 by 1;1 to 0 by 2;2 to 0 by 3");
        x.change(0, 4, cost);
        return x;
    }

    private static MeltPins heldOne() {
        MeltPins x = two();
        x.hold(1, true);
        return x;
    }

    @Says(promise = 21, words = "THE FEWEST: the set of fewest PLACES whose STAND is ALL; of these the one of least COST: "
        + "what 0 the set, 1 how many, 2 COST of all.")
    static void fewest() {
        MeltPins x = oneOrTwo(99);
        int[] told = {1, 1, 99};
        for (int what = 0; what <= 2; what++) due(x.fewest(what), told[what]);
        // Of two that do it alone the cheaper, or the least one.
        x = of("place 1 cost 7;place 1 cost 6;place 1 cost 6;0 to 1 by 1;1 to 2 by 1;2 to 0 by 1");
        told = new int[] {2, 1, 6};
        for (int what = 0; what <= 2; what++) due(x.fewest(what), told[what]);
        x.change(2, 4, 5);
        due(x.fewest(0), 4);
        x.change(0, 4, 5);
        due(x.fewest(0), 1);
        x.push(0, 1);
        due(x.fewest(0), 1);
        // None, one, and all of twelve.
        for (int what = 0; what <= 2; what++) due(new MeltPins().fewest(what), 0);
        told = new int[] {1, 1, 1};
        for (int what = 0; what <= 2; what++) due(forty().fewest(what), told[what]);
        x = twelve();
        for (int place = 0; place < 12; place++) x.change(place, 4, 99);
        told = new int[] {4095, 12, 1188};
        for (int what = 0; what <= 2; what++) due(x.fewest(what), told[what]);
        due(x.status(-1), 0);
        // STAND is behind 24 years.
        x = twentyFour();
        due(x.fewest(0), 1);
        x.change(3, 3, 4);
        due(x.fewest(0), 3);
    }

    @Says(promise = 21, words = "BEYOND.")
    static void fewestBeyond() {
        taken(Check::two, (x, v) -> x.fewest(v), 0, 2);
        taken(Check::empty, (x, v) -> x.fewest(v), 0, 2);
        refused(SetSentences::heldOne, x -> x.fewest(3), BEYOND);
        refused(SetSentences::heldOne, x -> x.fewest(-1), BEYOND);
    }

    @Says(promise = 21, words = "NONE.")
    static void fewestNone() {
        for (int what = 0; what <= 2; what++) {
            int v = what;
            refused(SetSentences::heldOne, x -> x.fewest(v), NONE);
            refused(() -> of("back 9 lower 1"), x -> x.fewest(v), NONE);
        }
    }

    // ---- cheapest

    @Says(promise = 22, words = "THE CHEAPEST: the set of least COST whose STAND is ALL; of these the one of fewest PLACES: "
        + "what as of fewest().")
    static void cheapest() {
        MeltPins x = oneOrTwo(10);
        int[] told = {6, 2, 9};
        for (int what = 0; what <= 2; what++) due(x.cheapest(what), told[what]);
        x = oneOrTwo(9);
        told = new int[] {1, 1, 9};
        for (int what = 0; what <= 2; what++) due(x.cheapest(what), told[what]);
        x = oneOrTwo(8);
        told = new int[] {1, 1, 8};
        for (int what = 0; what <= 2; what++) due(x.cheapest(what), told[what]);
        // Two that are as cheap and as few: the least one.
        x = of("place 1 cost 6;place 1 cost 6;0 to 1 by 1;1 to 0 by 1");
        due(x.cheapest(0), 1);
        x.change(0, 4, 7);
        due(x.cheapest(0), 2);
        // Eleven at the least cost are cheaper than one at 12, and as cheap as one at 11, which is fewer.
        x = of("place 11 cost 12;place 1;place 1;place 1;place 1;place 1", "place 1;place 1;place 1;place 1;place 1;place 1");
        for (int place = 1; place < 12; place++) {
            x.tie(0, place, 1);
            x.tie(place, 0, 1);
        }
        told = new int[] {4094, 11, 11};
        for (int what = 0; what <= 2; what++) due(x.cheapest(what), told[what]);
        due(x.fewest(0), 1);
        x.change(0, 4, 11);
        told = new int[] {1, 1, 11};
        for (int what = 0; what <= 2; what++) due(x.cheapest(what), told[what]);
        for (int what = 0; what <= 2; what++) due(new MeltPins().cheapest(what), 0);
        x = twelve();
        for (int place = 0; place < 12; place++) x.change(place, 4, 99);
        told = new int[] {4095, 12, 1188};
        for (int what = 0; what <= 2; what++) due(x.cheapest(what), told[what]);
        due(x.status(-1), 0);
    }

    @Says(promise = 22, words = "BEYOND.")
    static void cheapestBeyond() {
        taken(Check::two, (x, v) -> x.cheapest(v), 0, 2);
        taken(Check::empty, (x, v) -> x.cheapest(v), 0, 2);
        refused(SetSentences::heldOne, x -> x.cheapest(3), BEYOND);
        refused(SetSentences::heldOne, x -> x.cheapest(-1), BEYOND);
    }

    @Says(promise = 22, words = "NONE.")
    static void cheapestNone() {
        for (int what = 0; what <= 2; what++) {
            int v = what;
            refused(SetSentences::heldOne, x -> x.cheapest(v), NONE);
            refused(() -> of("back 9 lower 1"), x -> x.cheapest(v), NONE);
        }
    }

    // ---- most

    @Says(promise = 23, words = "Of sets of just n PLACES the one whose STAND has most: what 0 the set, 1 how many its STAND has.")
    static void most() {
        MeltPins x = of("place 9;place 1;place 1;place 9;1 to 2 by 1;3 to 1 by 1");
        int[][] rows = {{0, 0}, {8, 3}, {9, 4}, {11, 4}, {15, 4}};
        for (int n = 0; n <= 4; n++) for (int what = 0; what <= 1; what++) due(x.most(n, what), rows[n][what]);
        // Just n: also where fewer would do, or where more of them are worse.
        x = of("drown 9;place 9;place 9");
        x.change(0, 7, 1);
        due(x.most(1, 0), 1);
        due(x.most(2, 0), 5);
        due(x.most(2, 1), 2);
        due(x.most(3, 0), 7);
        due(x.most(3, 1), 2);
        x.hold(2, true);
        due(x.most(2, 0), 3);
        due(x.most(2, 1), 1);
        due(x.most(1, 0), 1);
        // None is over: the least set of just so many.
        x = of("back 9 lower 1;back 9 lower 1;back 9 lower 1");
        int[] least = {0, 1, 3, 7};
        for (int n = 0; n <= 3; n++) {
            due(x.most(n, 0), least[n]);
            due(x.most(n, 1), 0);
        }
        due(new MeltPins().most(0, 0), 0);
        due(new MeltPins().most(0, 1), 0);
        x = forty();
        due(x.most(0, 1), 0);
        due(x.most(1, 0), 1);
        due(x.most(1, 1), 12);
        due(x.most(12, 0), 4095);
        due(x.most(12, 1), 12);
        due(x.most(11, 0), 2047);
        x.hold(0, true);
        due(x.most(1, 0), 2);
        due(x.most(1, 1), 11);
        due(x.status(-1), 0);
    }

    @Says(promise = 23, words = "BEYOND.")
    static void mostBeyond() {
        taken(Check::two, (x, v) -> x.most(1, v), 0, 1);
        taken(Check::empty, (x, v) -> x.most(0, v), 0, 1);
        taken(Check::two, (x, v) -> x.most(v, 0), 0, 2, BEYOND, NONE);
        taken(Check::empty, (x, v) -> x.most(v, 1), 0, 0, BEYOND, NONE);
        refused(Check::two, x -> x.most(3, 2), BEYOND);
        refused(Check::two, x -> x.most(3, -1), BEYOND);
        refused(Check::two, x -> x.most(-1, 0), BEYOND);
    }

    @Says(promise = 23, words = "NONE: there aren't n PLACES.")
    static void mostNone() {
        refused(Check::empty, x -> x.most(1, 0), NONE);
        refused(Check::two, x -> x.most(3, 0), NONE);
        refused(Check::two, x -> x.most(12, 1), NONE);
        takes(Check::twelve, x -> x.most(12, 0));
        refused(Check::twelve, x -> x.most(13, 0), NONE);
        refused(Check::twelve, x -> x.most(MAX, 1), NONE);
    }

    // ---- must

    @Says(promise = 24, words = "MUST, as a set.")
    static void must() {
        due(new MeltPins().must(), 0);
        due(twelve().must(), 4095);
        due(forty().must(), 1);
        MeltPins x = of("place 9;place 99;0 to 1 by 99;1 to 0 by 9");
        due(x.must(), 0);
        x.tie(1, 0, 8);
        due(x.must(), 1);
        x.tie(0, 1, 98);
        due(x.must(), 3);
        // A COMPANY one by what it gets.
        x = of("company 5;place 1;1 to 0 by 5;0 to 1 by 1");
        due(x.must(), 0);
        x.tie(1, 0, 4);
        due(x.must(), 1);
        due(x.status(-1), 0);
    }

    // ---- order

    @Says(promise = 25, words = "THE BEST ORDER of a set of 1 to 4 PLACES, PUSHED one by one, one each gap YEARS (0 to 5), the first "
        + "in YEAR 0: that by which ALL are OVER behind fewest YEARS (1 to 49; THE PLAN not); of several the least as digits to the "
        + "base 12, the first PLACE the highest: what 0 YEARS, 1 that number.")
    static void order() {
        MeltPins x = of("place 9");
        due(x.order(1, 0, 0), 1);
        due(x.order(1, 5, 0), 1);
        due(x.order(1, 5, 1), 0);
        // By gap: four isles, the last of them pushed in year 3 * gap.
        x = of("place 9;place 9;place 9;place 9");
        for (int gap = 0; gap <= 5; gap++) {
            due(x.order(15, gap, 0), 3 * gap + 1);
            due(x.order(15, gap, 1), 1 * 144 + 2 * 12 + 3);
        }
        // 3 takes 5 years when 2 is over, 1 takes 2 when 0 is over: 2 first, then 0.
        x = of("place 9;place 1 takes 2;place 9;place 1 takes 5;0 to 1 by 1;2 to 3 by 1");
        due(x.order(5, 0, 0), 6);
        due(x.order(5, 0, 1), 2);
        due(x.order(5, 3, 0), 6);
        due(x.order(5, 3, 1), 2 * 12);
        due(x.order(5, 4, 0), 7);
        due(x.order(5, 4, 1), 2 * 12);
        // The greatest digits: the number of 11, 10, 9, 8, and the least of them all where it doesn't matter.
        x = twelve();
        for (int place = 0; place < 8; place++) x.tie(8, place, 1);
        due(x.order(3840, 0, 0), 1);
        due(x.order(3840, 0, 1), 8 * 1728 + 9 * 144 + 10 * 12 + 11);
        for (int place = 0; place < 8; place++) {
            x.cut(8, place);
            x.change(place, 3, 9);
            x.tie(11, place, 1);
        }
        due(x.order(3840, 3, 0), 10);
        due(x.order(3840, 3, 1), 11 * 1728 + 8 * 144 + 9 * 12 + 10);
        due(x.order(2048, 1, 0), NONE);
        due(x.order(3840, 4, 0), 13);
        due(x.order(3840, 4, 1), 11 * 1728 + 8 * 144 + 9 * 12 + 10);
        due(x.order(3840, 5, 0), 16);
        due(x.order(3840, 5, 1), 8 * 1728 + 11 * 144 + 9 * 12 + 10);
        // 49 years, not 50; THE PLAN doesn't count, HELD ones do.
        x = chain();
        x.change(5, 3, 8);
        x.push(0, 3);
        due(x.order(1, 1, 0), 49);
        due(x.order(1, 1, 1), 0);
        x.change(5, 3, 9);
        due(x.order(1, 1, 0), NONE);
        x.change(4, 3, 8);
        due(x.order(1, 1, 0), 49);
        x.hold(5, true);
        due(x.order(1, 1, 0), NONE);
        due(x.order(33, 1, 0), NONE);
        // For the first time, though they fall then, and though one is to be pushed still.
        x = of("back 9 lower 1;place 1;0 to 1 by 1");
        due(x.order(1, 0, 0), 1);
        due(x.order(3, 5, 0), 1);
        due(x.order(3, 5, 1), 1);
        due(x.order(2, 5, 1), NONE);
    }

    @Says(promise = 25, words = "BEYOND: set, gap, what.")
    static void orderBeyond() {
        for (int v : new int[] {-1, 0, 4096, MIN, MAX}) refused(Check::forty, x -> x.order(v, 0, 0), BEYOND);
        for (int v : new int[] {1, 3, 7, 15}) takes(Check::forty, x -> x.order(v, 0, 0));
        taken(() -> of("place 9"), (x, v) -> x.order(v, 0, 0), 1, 1);
        refused(Check::forty, x -> x.order(31, 0, 0), BEYOND);
        refused(Check::forty, x -> x.order(4095, 0, 0), BEYOND);
        refused(Check::forty, x -> x.order(4097, 0, 0), BEYOND);
        takes(Check::forty, x -> x.order(2048 + 1024 + 512 + 1, 0, 0));
        refused(Check::forty, x -> x.order(2048 + 1024 + 512 + 256 + 1, 0, 0), BEYOND);
        taken(Check::forty, (x, v) -> x.order(1, v, 0), 0, 5);
        taken(Check::forty, (x, v) -> x.order(1, v, 1), 0, 5);
        taken(Check::forty, (x, v) -> x.order(1, 0, v), 0, 1);
        refused(Check::empty, x -> x.order(0, 0, 0), BEYOND);
        refused(Check::empty, x -> x.order(1, 0, 0), BEYOND);
        refused(Check::two, x -> x.order(4, 0, 0), BEYOND);
        refused(Check::two, x -> x.order(5, 0, 0), BEYOND);
    }

    @Says(promise = 25, words = "NONE.")
    static void orderNone() {
        for (int what = 0; what <= 1; what++) {
            int v = what;
            refused(Check::two, x -> x.order(1, 0, v), NONE);
            refused(SetSentences::heldOne, x -> x.order(3, 5, v), NONE);
            refused(() -> of("back 9 lower 1;place 9"), x -> x.order(2, 1, v), NONE);
        }
        takes(Check::two, x -> x.order(3, 5, 0));
    }

    // ---- stop

    @Says(promise = 26, words = "The fewest PLACES that would have to be HELD besides (not of the set; of several those of least PRICE "
        + "together) so that STAND of a set has no PLACES besides its own: what 0 these, 1 PRICE of all.")
    static void stop() {
        MeltPins x = of("place 1;place 1 price 99;place 1;place 1;0 to 1 by 1;1 to 2 by 1;1 to 3 by 1");
        due(x.stop(1, 0), 2);
        due(x.stop(1, 1), 99);
        due(x.stop(3, 0), 12);
        due(x.stop(3, 1), 2);
        due(x.stop(2, 0), 12);
        due(x.stop(15, 0), 0);
        due(x.stop(15, 1), 0);
        due(x.stop(0, 0), 0);
        due(x.stop(8, 0), 0);
        // 0 falls: 2 or 1 held, by price, then by number.
        int[][] prices = {{4, 3, 4, 3}, {3, 4, 2, 3}, {4, 4, 2, 4}, {99, 1, 4, 1}, {1, 99, 2, 1}};
        for (int[] row : prices) {
            x = of("back 9 lower 1;place 1;back 1 lower 1;0 to 2 by 1;2 to 1 by 1");
            x.change(1, 5, row[0]);
            x.change(2, 5, row[1]);
            due(x.stop(1, 0), row[2]);
            due(x.stop(1, 1), row[3]);
        }
        // One dear one ahead of two cheap ones: 2 and 3 go and fall, and 1 stays.
        x = of("back 9 lower 1;place 1 price 99;back 1 lower 1;back 1 lower 1;0 to 2 by 1;0 to 3 by 1;2 to 1 by 1;3 to 1 by 1");
        due(x.stand(1), 2);
        due(x.stop(1, 0), 2);
        due(x.stop(1, 1), 99);
        x.change(1, 1, 2);
        due(x.stop(1, 0), 4);
        due(x.stop(1, 1), 1);
        // STAND has no others: not that it has its own. And PRICE isn't COST.
        x = of("back 9 lower 1 cost 9 price 2;place 9 price 3 cost 7;1 to 0 by 1");
        due(x.stop(1, 0), 0);
        due(x.stop(2, 0), 0);
        x.tie(1, 0, 9);
        due(x.stop(2, 0), 1);
        due(x.stop(2, 1), 2);
        x = forty();
        for (int place = 0; place < 12; place++) x.change(place, 5, 99);
        due(x.stop(1, 0), 4092);
        due(x.stop(1, 1), 990);
        due(x.stop(2, 0), 4092);
        due(x.stop(4095, 0), 0);
        due(x.stop(4095, 1), 0);
        due(x.stop(0, 1), 0);
        for (int to = 1; to < 12; to++) {
            for (int from = 1; from < 4; from++) if (x.tieOf(from, to) > 0) x.cut(from, to);
            x.tie(0, to, 1);
        }
        due(x.stop(1, 0), 4094);
        due(x.stop(1, 1), 1089);
        due(x.count(3), 0);
        due(x.status(-1), 0);
        due(new MeltPins().stop(0, 0), 0);
        due(new MeltPins().stop(0, 1), 0);
    }

    @Says(promise = 26, words = "(PLACES that are HELD already stay so, and aren't told.)")
    static void stopWithHeldOnes() {
        MeltPins x = of("place 1;place 1 price 5;place 1 price 7;0 to 1 by 1;0 to 2 by 1");
        due(x.stop(1, 0), 6);
        due(x.stop(1, 1), 12);
        x.hold(1, true);
        due(x.stop(1, 0), 4);
        due(x.stop(1, 1), 7);
        due(x.placeOf(1, 10), 1);
        x.hold(2, true);
        due(x.stop(1, 0), 0);
        due(x.stop(1, 1), 0);
        due(x.count(3), 2);
        // A HELD one of the set.
        x.hold(0, true);
        x.hold(1, false);
        due(x.stop(1, 0), 0);
        due(x.stop(3, 0), 0);
        due(x.placeOf(0, 10), 1);
    }

    @Says(promise = 26, words = "BEYOND.")
    static void stopBeyond() {
        taken(Check::two, (x, v) -> x.stop(v, 0), 0, 3);
        taken(Check::forty, (x, v) -> x.stop(v, 1), 0, 4095);
        taken(Check::two, (x, v) -> x.stop(1, v), 0, 1);
        taken(Check::empty, (x, v) -> x.stop(v, 0), 0, 0);
    }

    // ---- near

    @Says(promise = 27, words = "By how much (0 to 98, at least) each BAR would have to be less (1 at least) so that STAND of a set is ALL.")
    static void near() {
        for (int part = 1; part <= 99; part++) {
            MeltPins x = of("place 99;place 99;0 to 1 by " + part);
            due(x.near(1), 99 - part);
            due(x.near(3), 0);
            due(x.near(2), NONE);
            due(x.placeOf(1, 1), 99);
        }
        // 1 at least: one that has less stays at 1, and so goes by nothing less.
        MeltPins x = of("place 3;place 50;place 2;0 to 1 by 10;1 to 2 by 1");
        due(x.near(1), 40);
        x = of("place 3;place 50;place 2;0 to 1 by 10");
        due(x.near(1), NONE);
        // BARS, not HEIGHTS: half of it, or less ten times the STEPS.
        x = of("place 1;told 99;0 to 1 by 20");
        due(x.near(1), 58);
        x = of("place 1;part 99;0 to 1 by 20");
        x.step(1);
        x.step(1);
        due(x.near(1), 59);
        // What the one lacks counts that lacks most.
        x = of("place 9;place 50;place 9;0 to 1 by 20;0 to 2 by 9");
        due(x.near(1), 30);
        due(forty().near(1), 0);
        due(twelve().near(4095), 0);
        due(new MeltPins().near(0), 0);
    }

    @Says(promise = 27, words = "BEYOND.")
    static void nearBeyond() {
        for (int v : new int[] {-1, 4, MIN, MAX}) refused(SetSentences::eitherOfTwo, x -> x.near(v), BEYOND);
        for (int v = 1; v <= 3; v++) {
            int set = v;
            takes(SetSentences::eitherOfTwo, x -> x.near(set));
        }
        for (int v : new int[] {-1, 4096, MIN, MAX}) refused(Check::forty, x -> x.near(v), BEYOND);
        takes(Check::forty, x -> x.near(4095));
        taken(Check::empty, (x, v) -> x.near(v), 0, 0);
    }

    @Says(promise = 27, words = "NONE.")
    static void nearNone() {
        refused(Check::two, x -> x.near(0), NONE);
        refused(Check::two, x -> x.near(2), NONE);
        refused(SetSentences::heldOne, x -> x.near(3), NONE);
        refused(Check::twelve, x -> x.near(2047), NONE);
        refused(() -> of("company 1;place 1;1 to 0 by 99"), x -> x.near(2), NONE);
    }

    // ---- look

    @Says(promise = 28, words = "The PLACE whose STAND alone has most PLACES.")
    static void look() {
        due(of("place 1").look(), 0);
        due(twelve().look(), 0);
        due(forty().look(), 0);
        MeltPins x = twelve();
        x.tie(11, 10, 1);
        due(x.look(), 11);
        x.tie(10, 9, 1);
        due(x.look(), 11);
        x.tie(5, 11, 1);
        due(x.look(), 5);
        x.tie(3, 5, 1);
        due(x.look(), 3);
        x.tie(4, 5, 1);
        due(x.look(), 3);
        x.hold(5, true);
        due(x.look(), 11);
        // All are HELD, or all fall: the least one.
        for (int place = 0; place < 12; place++) x.hold(place, true);
        due(x.look(), 0);
        due(of("back 9 lower 1;back 9 lower 1").look(), 0);
        due(of("back 9 lower 1;back 9 lower 1;place 9").look(), 2);
        due(x.status(-1), 0);
    }

    @Says(promise = 28, words = "NONE: there are no PLACES.")
    static void lookNone() {
        refused(Check::empty, x -> x.look(), NONE);
        refused(() -> {
            MeltPins x = empty();
            x.image();
            read(x, "place 1");
            x.undo();
            return x;
        }, x -> x.look(), NONE);
    }

    // ---- edge

    @Says(promise = 29, words = "The greatest BAR (1 to 99) of a PLACE with which STAND of a set is ALL.")
    static void edge() {
        for (int part = 1; part <= 99; part++) {
            MeltPins x = of("place 3;place 50;0 to 1 by " + part);
            due(x.edge(1, 1), part);
            due(x.edge(3, 1), 99);
            due(x.edge(1, 0), part < 50 ? NONE : 99);
            due(x.placeOf(0, 1), 3);
            due(x.placeOf(1, 1), 50);
        }
        // BARS, not HEIGHTS.
        MeltPins x = of("place 1;told 3;0 to 1 by 1");
        due(x.edge(1, 1), 3);
        x.tie(0, 1, 48);
        due(x.edge(1, 1), 97);
        x.tie(0, 1, 49);
        due(x.edge(1, 1), 99);
        x = of("place 1;part 3;0 to 1 by 9");
        for (int i = 0; i < 9; i++) x.step(1);
        due(x.edge(1, 1), 99);
        x.tie(0, 1, 8);
        due(x.edge(1, 1), 98);
        x = of("company 9;drown 9;place 9");
        due(x.edge(7, 1), 99);
        due(forty().edge(1, 5), 20);
        due(forty().edge(1, 1), 10);
        due(forty().edge(1, 0), 99);
        due(x.status(-1), 0);
    }

    @Says(promise = 29, words = "BEYOND: set, place.")
    static void edgeBeyond() {
        for (int v : new int[] {-1, 4, MIN, MAX}) refused(SetSentences::eitherOfTwo, x -> x.edge(v, 0), BEYOND);
        for (int v = 1; v <= 3; v++) {
            int set = v;
            takes(SetSentences::eitherOfTwo, x -> x.edge(set, 1));
        }
        for (int v : new int[] {-1, 4096, MIN, MAX}) refused(Check::twelve, x -> x.edge(v, 0), BEYOND);
        taken(Check::two, (x, v) -> x.edge(3, v), 0, 1);
        taken(Check::twelve, (x, v) -> x.edge(4095, v), 0, 11);
        refused(Check::empty, x -> x.edge(0, 0), BEYOND);
        refused(Check::two, x -> x.edge(0, 2), BEYOND);
    }

    @Says(promise = 29, words = "NONE.")
    static void edgeNone() {
        refused(Check::two, x -> x.edge(0, 0), NONE);
        refused(Check::two, x -> x.edge(1, 1), NONE);
        refused(SetSentences::heldOne, x -> x.edge(3, 1), NONE);
        refused(() -> of("place 1;place 1;place 1;0 to 1 by 1"), x -> x.edge(1, 1), NONE);
    }
}
