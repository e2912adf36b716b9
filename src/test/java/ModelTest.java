import java.util.Random;

/** Runs of calls, drawn from fixed seeds, on MeltPins and on PlainModel: each answer has to be the same. */
public final class ModelTest {
    private static final int CALLS = 512;

    private final Random random;
    private final Pair pair = new Pair();
    private final PlainModel model = pair.model;
    private final int mostPlaces;

    private ModelTest(long seed, int mostPlaces) {
        random = new Random(seed);
        this.mostPlaces = mostPlaces;
    }

    public static void main(String[] args) throws Exception {
        int runs = args.length > 0 ? Integer.parseInt(args[0]) : 120;
        int from = args.length > 1 ? Integer.parseInt(args[1]) : 1;
        for (int seed = from; seed < from + runs; seed++) {
            int most = seed % 20 == 0 ? 12 : 1 + seed % 6;
            new ModelTest(seed, most).run(seed);
        }
        System.out.println(runs + " runs agree with the plain model");
    }

    private void run(long seed) throws Exception {
        boolean dense = seed % 2 == 0 && mostPlaces < 12;
        if (dense) {
            dense();
        }
        while (pair.calls() < CALLS) {
            int turn = random.nextInt(100);
            if (dense && turn >= 8 && turn < 90) {
                ask();
                continue;
            }
            if (turn < 4 || (pair.calls() < 60 && turn < 40)) {
                feedText(text());
            } else if (turn < 6) {
                layers();
            } else {
                one();
            }
        }
    }

    /** Low bars, many ties: most places hang on others, so that who is pushed or held tells. */
    private void dense() throws Exception {
        int size = 4 + random.nextInt(3);
        for (int p = 0; p < size; p++) {
            String name = PlainModel.NAMES.get(random.nextInt(3) == 0 ? random.nextInt(7) : 0);
            feedText(name + " " + (2 + random.nextInt(9)) + " lower " + upTo(4) + " takes " + upTo(1) + " chance " + upTo(10));
        }
        for (int i = 0; i < size * 3; i++) both("tie", random.nextInt(size), random.nextInt(size), 1 + upTo(7));
    }

    /** A call that looks at many sets or years, or now and then one that changes the world a little. */
    private void ask() throws Exception {
        int size = model.size();
        int set = size == 0 ? 0 : random.nextInt(1 << size);
        switch (random.nextInt(17)) {
            case 0: both("fewest", upTo(2)); break;
            case 1: both("cheapest", upTo(2)); break;
            case 2: both("most", upTo(size), upTo(1)); break;
            case 3: both("order", fewPlaces(), upTo(5), upTo(1)); break;
            case 4: both("stop", set, upTo(1)); break;
            case 5: both("near", set); break;
            case 6: both("edge", set, aPlace()); break;
            case 7: both("likely"); break;
            case 8: both("century", about(1, 50)); break;
            case 9: if (size <= 6) both("game", 2, 0); if (size <= 6) both("game", 2, 1); break;
            case 10: both("game", 1, upTo(1)); break;
            case 11: layers(); break;
            case 12: both("stand", set); both("late", set); break;
            case 13: both("tie", aPlace(), aPlace(), 1 + upTo(9)); break;
            case 14: both("hold", aPlace(), random.nextInt(4) == 0); break;
            case 15: if (random.nextBoolean()) both("cut", aPlace(), aPlace()); else both("step", aPlace()); break;
            default: change();
        }
    }

    private long both(String name, Object... args) throws Exception {
        return pair.calls() < CALLS ? pair.both(name, args) : 0;
    }

    private int upTo(int n) {
        return random.nextInt(n + 1);
    }

    /** From low to high, now and then beside it or far off. */
    private int about(int low, int high) {
        int turn = random.nextInt(60);
        if (turn == 0) return low - 1;
        if (turn == 1) return high + 1;
        if (turn == 2) return random.nextInt();
        if (turn == 3) return random.nextBoolean() ? Integer.MAX_VALUE : Integer.MIN_VALUE;
        return high < low ? low : low + random.nextInt(high - low + 1);
    }

    private int aPlace() {
        return about(0, model.size() - 1);
    }

    private int aSet() {
        return about(0, (1 << model.size()) - 1);
    }

    private void feedText(String text) throws Exception {
        both("wipe");
        int at = 0;
        while (at < text.length()) {
            int n = Math.min(1 + random.nextInt(4), text.length() - at);
            if (text.length() > 40) n = Math.min(4, text.length() - at);
            int bytes = n == 4 ? 0 : random.nextInt() << 8 * n;
            for (int i = 0; i < n; i++) bytes |= (text.charAt(at + i) & 255) << 8 * (n - 1 - i);
            both("feed", bytes, n);
            at += n;
        }
        both("world");
    }

    private String text() {
        StringBuilder text = new StringBuilder();
        int places = model.size();
        int items = 1 + random.nextInt(6);
        for (int i = 0; i < items && text.length() < 100; i++) {
            if (i > 0) text.append(random.nextInt(4) == 0 ? " ; " : ";");
            boolean place = places < mostPlaces && (places < 2 || random.nextInt(3) == 0) || places == 0;
            if (place) {
                places++;
                text.append(PlainModel.NAMES.get(random.nextInt(7))).append(' ').append(1 + random.nextInt(12));
                while (random.nextInt(3) == 0) {
                    int w = random.nextInt(5);
                    text.append(" ").append(new String[] {"lower", "takes", "cost", "price", "chance"}[w]);
                    text.append(' ').append(1 + random.nextInt(w == 1 ? 4 : 9));
                }
            } else {
                text.append(random.nextInt(places)).append(" to ").append(random.nextInt(places));
                text.append(" by ").append(1 + random.nextInt(12));
            }
        }
        if (random.nextInt(3) == 0) spoil(text);
        return text.substring(0, Math.min(120, text.length()));
    }

    private void spoil(StringBuilder text) {
        String signs = "0123456789az; \t#A\u0000\u00ff";
        int at = random.nextInt(text.length());
        char sign = signs.charAt(random.nextInt(signs.length()));
        switch (random.nextInt(4)) {
            case 0: text.setCharAt(at, sign); break;
            case 1: text.insert(at, sign); break;
            case 2: text.deleteCharAt(at); break;
            default: text.setLength(at);
        }
    }

    /** A sheet with the layers of some set, or nearly so, so that first() finds something. */
    private void layers() throws Exception {
        int size = model.size();
        PlainModel.Years y = new PlainModel.Years(model.now, PlainModel.held(model.now));
        int set = random.nextInt(1 << size);
        int[] layers = new int[size];
        for (int n = 1; n <= 24; n++) {
            y.pass(PlainModel.members(n == 1 ? set : 0));
            for (int p : y.over) if (layers[p] == 0) layers[p] = n;
        }
        int s = upTo(3);
        both("sheet", s, 8 << upTo(2), size);
        for (int p = 0; p < size; p++) if (layers[p] != 0) both("write", s, p, layers[p]);
        if (random.nextInt(4) == 0) both("write", s, aPlace(), upTo(3));
        both("first", s);
    }

    private void one() throws Exception {
        boolean small = model.size() <= 6;
        switch (random.nextInt(48)) {
            case 0: both("feed", random.nextInt(), about(1, 4)); break;
            case 1: if (random.nextInt(8) == 0) both("wipe"); break;
            case 2: both("world"); break;
            case 3: both("placeOf", aPlace(), about(0, 10)); break;
            case 4: case 5: case 6: change(); break;
            case 7: both("step", aPlace()); break;
            case 8: case 9: case 10: both("tie", aPlace(), aPlace(), about(1, 14)); break;
            case 11: both("tieOf", aPlace(), aPlace()); break;
            case 12: both("cut", aPlace(), aPlace()); break;
            case 13: both("hold", aPlace(), random.nextInt(5) == 0); break;
            case 14: case 15: case 16: both("push", random.nextInt(3) == 0 ? about(0, 49) : upTo(4), aPlace()); break;
            case 17: both("pushOf", about(0, model.now.plan.size() - 1), about(0, 1)); break;
            case 18: if (random.nextInt(8) == 0) both("clear"); break;
            case 19: both("run", about(0, 99), about(0, 1)); both("run", upTo(9), 0); break;
            case 20: both("runOf", random.nextBoolean() ? about(0, 99) : upTo(9), aPlace(), about(0, 1)); break;
            case 21: both("when", aPlace()); break;
            case 22: both("settles"); break;
            case 23: both("stand", aSet()); break;
            case 24: both("late", aSet()); break;
            case 25: if (small || random.nextInt(9) == 0) both("fewest", about(0, 2)); break;
            case 26: if (small || random.nextInt(9) == 0) both("cheapest", about(0, 2)); break;
            case 27: if (small || random.nextInt(9) == 0) both("most", about(0, model.size()), about(0, 1)); break;
            case 28: both("must"); break;
            case 29: both("order", random.nextInt(4) == 0 ? aSet() : fewPlaces(), about(0, 5), about(0, 1)); break;
            case 30: if (small || random.nextInt(9) == 0) both("stop", aSet(), about(0, 1)); break;
            case 31: both("near", aSet()); break;
            case 32: both("look"); break;
            case 33: both("edge", aSet(), aPlace()); break;
            case 34: if (small || random.nextInt(9) == 0) both("likely"); break;
            case 35: both("century", about(1, 50)); break;
            case 36: both("seed", random.nextInt()); break;
            case 37: both("game", small || random.nextInt(20) == 0 ? about(1, 2) : 1, about(0, 1)); break;
            case 38: if (small || random.nextInt(9) == 0) both("first", about(0, 3)); break;
            case 39: judged(); break;
            case 40: both("spot", about(0, 9), about(-1, model.size() - 1)); break;
            case 41: both("as", about(0, 9), about(0, 6)); break;
            case 42: both("sheet", about(0, 3), random.nextInt(9) == 0 ? about(0, 32) : 8 << upTo(2), about(0, 40)); break;
            case 43: both("write", about(0, 3), about(0, 39), random.nextInt()); break;
            case 44: both("copy", about(0, 3), about(0, 20), about(0, 3), about(0, 20), about(0, 10)); break;
            case 45: both("image"); break;
            case 46: if (random.nextInt(3) == 0) both(random.nextInt(4) == 0 ? "tear" : "undo"); break;
            default: both("count", about(0, 6)); both("status", about(-1, 6));
        }
    }

    private int fewPlaces() {
        int set = 0;
        for (int i = 1 + upTo(3); i > 0 && model.size() > 0; i--) set |= 1 << random.nextInt(model.size());
        return set;
    }

    private void change() throws Exception {
        int what = about(1, 7);
        int[] high = {0, 20, 12, 5, 99, 99, 10, model.size() - 1};
        both("change", aPlace(), what, about(what == 7 ? -1 : 1, what >= 1 && what <= 7 ? high[what] : 9));
    }

    /** A sheet with the numbers of the plan, one of them perhaps off, so that judge() has to look far. */
    private void judged() throws Exception {
        int s = about(0, 3);
        int n = random.nextInt(3) == 0 ? 40 : upTo(12);
        both("sheet", s, 8, n);
        for (int i = 0; i < n; i++) both("write", s, i, model.behind(i + 1).over.size());
        if (random.nextInt(2) == 0) both("write", s, about(0, n - 1), upTo(9));
        both("judge", s);
    }
}
