import java.util.Arrays;

/** Which ice to melt first. What each call answers is told in DOC.md, by the numbers of its promises. */
public final class MeltPins {
    private static final int BEYOND = -1000001;
    private static final int FULL = BEYOND - 1;
    private static final int KIND = BEYOND - 2;
    private static final int NONE = BEYOND - 3;
    private static final int STATE = BEYOND - 4;
    private static final int MISSING = BEYOND - 5;
    private static final int SIZE = BEYOND - 6;
    private static final int FINDINGS = 7;

    private static final int KINDS = 7;
    private static final int PLACE = 0;
    private static final int STAY = 1;
    private static final int BACK = 2;
    private static final int COMPANY = 3;
    private static final int DROWN = 4;
    private static final int PART = 5;
    private static final int TOLD = 6;
    private static final int[] KIND_ABOVE = {-1, PLACE, PLACE, STAY, STAY, BACK, COMPANY};

    // What is told of a place, in the order of placeOf(); those from BAR to SPOILS can be changed.
    private static final int TRAITS = 9;
    private static final int OF_KIND = 0;
    private static final int BAR = 1;
    private static final int LOWER = 2;
    private static final int TAKES = 3;
    private static final int COST = 4;
    private static final int PRICE = 5;
    private static final int CHANCE = 6;
    private static final int SPOILS = 7;
    private static final int STEPS = 8;
    private static final int OF_HEIGHT = 9;
    private static final int OF_HELD = 10;
    private static final int[] LEAST = {0, 1, 0, 0, 1, 1, 0, -1, 0};
    private static final int[] GREATEST = {6, 99, 99, 9, 99, 99, 10, 11, 9};

    private static final int MAX_PLACES = 12;
    private static final int MAX_TIES = 40;
    private static final int MAX_PUSHES = 20;
    private static final int MAX_PART = 99;
    private static final int MAX_BAR = 99;
    private static final int MAX_STEPS = 9;
    private static final int MAX_TAPE = 120;
    private static final int SPOTS = 10;
    private static final int SHEETS = 4;
    private static final int SHEET_ROOM = 40;
    private static final int NOTHING = -1;

    private static final int LAST_PUSH_YEAR = 49;
    private static final int LAST_RUN_YEAR = 99;
    private static final int STAND_YEARS = 24;
    private static final int ORDER_YEARS = 49;
    private static final int ORDER_PLACES = 4;
    private static final int ORDER_GAP = 5;
    private static final int ORDER_BASE = 12;
    private static final int MOST_LESS = 98;
    private static final int CENTURY = 50;
    private static final int TENTHS = 10;
    private static final int GAME_TURNS = 2;
    // Weighs the first of two measures above the second: no sum of costs or prices comes to it.
    private static final int FIRST_MEASURE = 10000;
    private static final int HEAVIEST = 100000000;

    private final World now = new World();
    private final World kept = new World();
    private final World draft = new World();
    private final Melt melt = new Melt(now);
    private final Tape tape = new Tape();
    private final Sheet[] sheets = new Sheet[SHEETS];
    private final int[] told = new int[FINDINGS];
    private boolean keeps;

    public MeltPins() {
        for (int s = 0; s < SHEETS; s++) {
            sheets[s] = new Sheet();
        }
    }

    // ---- the world

    public int feed(int bytes, int n) {
        if (n < 1 || n > 4) {
            return finding(BEYOND);
        }
        if (tape.length + n > MAX_TAPE) {
            return finding(FULL);
        }
        for (int i = n - 1; i >= 0; i--) {
            tape.append(bytes >> (8 * i));
        }
        return tape.length;
    }

    public int wipe() {
        int had = tape.length;
        tape.length = 0;
        return had;
    }

    public int world() {
        draft.become(now);
        int fault = tape.readText(draft);
        tape.length = 0;
        if (fault >= 0) {
            return -1 - fault;
        }
        now.become(draft);
        return now.places;
    }

    public int placeOf(int place, int what) {
        if (!isPlace(place) || what < 0 || what > OF_HELD) {
            return finding(BEYOND);
        }
        if (what == OF_HEIGHT) {
            return now.heightOf(place, now.traits[place][BAR]);
        }
        if (what == OF_HELD) {
            return now.held >> place & 1;
        }
        return now.traits[place][what];
    }

    public int change(int place, int what, int v) {
        if (!isPlace(place) || what < BAR || what > SPOILS || v < LEAST[what] || v > GREATEST[what]) {
            return finding(BEYOND);
        }
        if (what == SPOILS && (v == place || v >= now.places)) {
            return finding(BEYOND);
        }
        int was = now.traits[place][what];
        now.traits[place][what] = v;
        return was;
    }

    public int step(int place) {
        if (!isPlace(place)) {
            return finding(BEYOND);
        }
        if (now.traits[place][STEPS] >= MAX_STEPS) {
            return finding(FULL);
        }
        now.traits[place][STEPS]++;
        return now.traits[place][STEPS];
    }

    public int tie(int from, int to, int part) {
        if (!isPlace(from) || !isPlace(to) || from == to || part < 1 || part > MAX_PART) {
            return finding(BEYOND);
        }
        int was = now.parts[from][to];
        if (was == 0 && now.ties >= MAX_TIES) {
            return finding(FULL);
        }
        now.putTie(from, to, part);
        return was;
    }

    public int tieOf(int from, int to) {
        if (!isPlace(from) || !isPlace(to)) {
            return finding(BEYOND);
        }
        return now.parts[from][to];
    }

    public int cut(int from, int to) {
        if (!isPlace(from) || !isPlace(to)) {
            return finding(BEYOND);
        }
        if (now.parts[from][to] == 0) {
            return finding(NONE);
        }
        now.parts[from][to] = 0;
        now.ties--;
        return now.ties;
    }

    public int hold(int place, boolean is) {
        if (!isPlace(place)) {
            return finding(BEYOND);
        }
        int was = now.held >> place & 1;
        now.held = is ? now.held | 1 << place : now.held & ~(1 << place);
        return was;
    }

    // ---- the plan

    public int push(int year, int place) {
        if (year < 0 || year > LAST_PUSH_YEAR || !isPlace(place)) {
            return finding(BEYOND);
        }
        if ((now.pushedIn(year) >> place & 1) != 0) {
            return finding(STATE);
        }
        if (now.pushes >= MAX_PUSHES) {
            return finding(FULL);
        }
        now.pushYears[now.pushes] = year;
        now.pushPlaces[now.pushes] = place;
        now.pushes++;
        return now.pushes;
    }

    public int pushOf(int i, int what) {
        if (i < 0 || i >= now.pushes || what < 0 || what > 1) {
            return finding(BEYOND);
        }
        return what == 0 ? now.pushYears[i] : now.pushPlaces[i];
    }

    public int clear() {
        int had = now.pushes;
        now.pushes = 0;
        return had;
    }

    public int run(int n, int what) {
        if (n < 0 || n > LAST_RUN_YEAR || what < 0 || what > 1) {
            return finding(BEYOND);
        }
        passPlan(n);
        return what == 0 ? melt.over : melt.drowned;
    }

    public int runOf(int n, int place, int what) {
        if (n < 0 || n > LAST_RUN_YEAR || !isPlace(place) || what < 0 || what > 1) {
            return finding(BEYOND);
        }
        passPlan(n);
        return what == 0 ? melt.onWay[place] : melt.gets(place, melt.over);
    }

    public int when(int place) {
        if (!isPlace(place)) {
            return finding(BEYOND);
        }
        passPlan(0);
        for (int n = 1; n <= LAST_RUN_YEAR; n++) {
            melt.passYear(now.pushedIn(n - 1));
            if ((melt.over >> place & 1) != 0) {
                return n;
            }
        }
        return finding(NONE);
    }

    public int settles() {
        passPlan(0);
        int latest = 0;
        for (int n = 1; n <= LAST_RUN_YEAR; n++) {
            int over = melt.over;
            int drowned = melt.drowned;
            melt.passYear(now.pushedIn(n - 1));
            if (melt.over != over || melt.drowned != drowned) {
                latest = n;
            }
        }
        return latest;
    }

    // ---- sets

    public int stand(int set) {
        if (!isSet(set)) {
            return finding(BEYOND);
        }
        melt.survey();
        return melt.standOf(set, now.held);
    }

    public int late(int set) {
        if (!isSet(set)) {
            return finding(BEYOND);
        }
        melt.survey();
        melt.begin(now.held);
        for (int n = 1; n <= STAND_YEARS; n++) {
            melt.passYear(n == 1 ? set : 0);
            if (melt.over == now.all()) {
                return n;
            }
        }
        return finding(NONE);
    }

    public int fewest(int what) {
        if (what < 0 || what > 2) {
            return finding(BEYOND);
        }
        return tellOfSet(leastThatStands(true), what);
    }

    public int cheapest(int what) {
        if (what < 0 || what > 2) {
            return finding(BEYOND);
        }
        return tellOfSet(leastThatStands(false), what);
    }

    public int most(int n, int what) {
        if (n < 0 || what < 0 || what > 1) {
            return finding(BEYOND);
        }
        if (n > now.places) {
            return finding(NONE);
        }
        melt.survey();
        int best = 0;
        int bestOver = -1;
        for (int set = 0; set <= now.all(); set++) {
            if (Integer.bitCount(set) == n) {
                int over = Integer.bitCount(melt.standOf(set, now.held));
                if (over > bestOver) {
                    best = set;
                    bestOver = over;
                }
            }
        }
        return what == 0 ? best : bestOver;
    }

    public int must() {
        melt.survey();
        return melt.mustBePushed();
    }

    public int order(int set, int gap, int what) {
        int size = isSet(set) ? Integer.bitCount(set) : 0;
        if (size < 1 || size > ORDER_PLACES || gap < 0 || gap > ORDER_GAP || what < 0 || what > 1) {
            return finding(BEYOND);
        }
        melt.survey();
        int codes = 1;
        for (int i = 0; i < size; i++) {
            codes *= ORDER_BASE;
        }
        int best = -1;
        int fewestYears = ORDER_YEARS + 1;
        for (int code = 0; code < codes; code++) {
            // As many digits as the set has places: the same set means that each stands there once.
            if (digitSet(code, size) == set) {
                int years = orderYears(code, size, gap);
                if (years < fewestYears) {
                    best = code;
                    fewestYears = years;
                }
            }
        }
        if (best < 0) {
            return finding(NONE);
        }
        return what == 0 ? fewestYears : best;
    }

    public int stop(int set, int what) {
        if (!isSet(set) || what < 0 || what > 1) {
            return finding(BEYOND);
        }
        melt.survey();
        int free = now.all() & ~set & ~now.held;
        int best = free;
        int bestWeight = HEAVIEST;
        for (int more = 0; more <= free; more++) {
            if ((more & ~free) == 0) {
                int weight = Integer.bitCount(more) * FIRST_MEASURE + now.sumOf(more, PRICE);
                if (weight < bestWeight && (melt.standOf(set, now.held | more) & ~set) == 0) {
                    best = more;
                    bestWeight = weight;
                }
            }
        }
        return what == 0 ? best : now.sumOf(best, PRICE);
    }

    public int near(int set) {
        if (!isSet(set)) {
            return finding(BEYOND);
        }
        melt.survey();
        for (int less = 0; less <= MOST_LESS; less++) {
            melt.lowerBars(less);
            if (melt.standsAll(set)) {
                return less;
            }
        }
        return finding(NONE);
    }

    public int look() {
        if (now.places == 0) {
            return finding(NONE);
        }
        melt.survey();
        int best = 0;
        int bestOver = -1;
        for (int place = 0; place < now.places; place++) {
            int over = Integer.bitCount(melt.standOf(1 << place, now.held));
            if (over > bestOver) {
                best = place;
                bestOver = over;
            }
        }
        return best;
    }

    public int edge(int set, int place) {
        if (!isSet(set) || !isPlace(place)) {
            return finding(BEYOND);
        }
        melt.survey();
        for (int bar = MAX_BAR; bar >= 1; bar--) {
            melt.takeBar(place, bar);
            if (melt.standsAll(set)) {
                return bar;
            }
        }
        return finding(NONE);
    }

    // ---- chances, two

    public long likely() {
        melt.survey();
        int must = melt.mustBePushed();
        long sum = 0;
        for (int set = 0; set <= now.all(); set++) {
            if ((set & must) == must) {
                long weight = chanceOf(set);
                if (weight > 0 && melt.standsAll(set)) {
                    sum += weight;
                }
            }
        }
        return sum;
    }

    public int century(int n) {
        if (n < 1 || n > CENTURY) {
            return finding(BEYOND);
        }
        melt.survey();
        int come = 0;
        for (int time = 0; time < n; time++) {
            if (melt.standsAll(drawnSet())) {
                come++;
            }
        }
        return come;
    }

    public int seed(int v) {
        int was = now.z;
        now.z = v;
        return was;
    }

    public int game(int n, int what) {
        if (n < 1 || n > GAME_TURNS || what < 0 || what > 1) {
            return finding(BEYOND);
        }
        melt.survey();
        int free = now.all() & ~now.held;
        int best = -1;
        int bestPlace = NOTHING;
        for (int place = 0; place < now.places; place++) {
            if ((free >> place & 1) != 0) {
                int comes = bestHold(n, 1 << place, now.held, best, MAX_PLACES);
                if (comes > best) {
                    best = comes;
                    bestPlace = place;
                }
            }
        }
        if (what == 1) {
            return bestPlace;
        }
        // Without a place that can be pushed there is none that could come to be over.
        return Math.max(best, 0);
    }

    // ---- layers

    public int first(int s) {
        if (!isSheet(s)) {
            return finding(BEYOND);
        }
        Sheet sheet = sheets[s];
        if (sheet.bits == 0) {
            return finding(MISSING);
        }
        if (sheet.length != now.places) {
            return finding(NONE);
        }
        melt.survey();
        int best = -1;
        int bestSize = MAX_PLACES + 1;
        for (int set = 0; set <= now.all(); set++) {
            int size = Integer.bitCount(set);
            if (size < bestSize && bringsLayers(set, sheet)) {
                best = set;
                bestSize = size;
            }
        }
        return best < 0 ? finding(NONE) : best;
    }

    public int judge(int s) {
        if (!isSheet(s)) {
            return finding(BEYOND);
        }
        Sheet sheet = sheets[s];
        if (sheet.bits == 0) {
            return finding(MISSING);
        }
        passPlan(0);
        for (int i = 0; i < sheet.length; i++) {
            melt.passYear(now.pushedIn(i));
            if (sheet.numbers[i] != Integer.bitCount(melt.over)) {
                return 1 + i;
            }
        }
        return 0;
    }

    // ---- spots, sheets

    public int spot(int spot, int place) {
        if (spot < 0 || spot >= SPOTS || (place != NOTHING && !isPlace(place))) {
            return finding(BEYOND);
        }
        now.spots[spot] = place;
        return 1;
    }

    public int as(int spot, int kind) {
        if (spot < 0 || spot >= SPOTS || kind < 0 || kind >= KINDS) {
            return finding(BEYOND);
        }
        int place = now.spots[spot];
        if (!isPlace(place)) {
            return finding(MISSING);
        }
        return isOfKind(now.traits[place][OF_KIND], kind) ? place : finding(KIND);
    }

    public int sheet(int s, int bits, int n) {
        if (!isSheet(s) || (bits != 0 && bits != 8 && bits != 16 && bits != 32)) {
            return finding(BEYOND);
        }
        if (n < 0) {
            return finding(SIZE);
        }
        if (n > SHEET_ROOM) {
            return finding(BEYOND);
        }
        Sheet sheet = sheets[s];
        sheet.bits = bits;
        sheet.length = bits == 0 ? 0 : n;
        Arrays.fill(sheet.numbers, 0);
        return sheet.length;
    }

    public int write(int s, int i, int v) {
        if (!isSheet(s)) {
            return finding(BEYOND);
        }
        Sheet sheet = sheets[s];
        if (sheet.bits == 0) {
            return finding(MISSING);
        }
        if (i < 0 || i >= sheet.length) {
            return finding(BEYOND);
        }
        sheet.numbers[i] = sheet.lowestBits(v);
        return 1;
    }

    public int copy(int s, int from, int t, int to, int n) {
        if (!isSheet(s) || !isSheet(t)) {
            return finding(BEYOND);
        }
        Sheet source = sheets[s];
        Sheet target = sheets[t];
        if (source.bits == 0 || target.bits == 0) {
            return finding(MISSING);
        }
        if (source.bits != target.bits) {
            return finding(KIND);
        }
        if (!source.hasRow(from, n) || !target.hasRow(to, n)) {
            return finding(BEYOND);
        }
        System.arraycopy(source.numbers, from, target.numbers, to, n);
        return n;
    }

    // ---- images

    public int image() {
        kept.become(now);
        keeps = true;
        return 1;
    }

    public int undo() {
        if (!keeps) {
            return finding(NONE);
        }
        now.become(kept);
        return now.places;
    }

    public int tear() {
        int had = keeps ? 1 : 0;
        keeps = false;
        return had;
    }

    public int count(int what) {
        switch (what) {
            case 0: return now.places;
            case 1: return now.ties;
            case 2: return now.pushes;
            case 3: return Integer.bitCount(now.held);
            case 4: return tape.length;
            case 5: return now.z;
            case 6: return now.fullSpots();
            default: return finding(BEYOND);
        }
    }

    public int status(int which) {
        if (which < -1 || which >= FINDINGS) {
            return finding(BEYOND);
        }
        if (which >= 0) {
            return told[which];
        }
        int sum = 0;
        for (int i = 0; i < FINDINGS; i++) {
            sum += told[i];
        }
        return sum;
    }

    // ---- what the calls share

    private int finding(int which) {
        int i = BEYOND - which;
        if (i >= 0 && i < FINDINGS) {
            told[i]++;
        }
        return which;
    }

    private boolean isPlace(int place) {
        return place >= 0 && place < now.places;
    }

    private boolean isSet(int set) {
        return set >= 0 && set <= now.all();
    }

    private static boolean isSheet(int s) {
        return s >= 0 && s < SHEETS;
    }

    private static boolean isOfKind(int kind, int wanted) {
        int at = kind;
        for (int i = 0; i < KINDS && at >= 0; i++) {
            if (at == wanted) {
                return true;
            }
            at = KIND_ABOVE[at];
        }
        return false;
    }

    private void passPlan(int years) {
        melt.survey();
        melt.begin(now.held);
        for (int year = 0; year < years; year++) {
            melt.passYear(now.pushedIn(year));
        }
    }

    /** The best set whose STAND is ALL, by size and then cost or the other way round; -1 without one. */
    private int leastThatStands(boolean bySize) {
        melt.survey();
        int must = melt.mustBePushed();
        int best = -1;
        int bestWeight = HEAVIEST;
        for (int set = 0; set <= now.all(); set++) {
            if ((set & must) == must) {
                int size = Integer.bitCount(set);
                int cost = now.sumOf(set, COST);
                int weight = bySize ? size * FIRST_MEASURE + cost : cost * FIRST_MEASURE + size;
                if (weight < bestWeight && melt.standsAll(set)) {
                    best = set;
                    bestWeight = weight;
                }
            }
        }
        return best;
    }

    private int tellOfSet(int set, int what) {
        if (set < 0) {
            return finding(NONE);
        }
        switch (what) {
            case 0: return set;
            case 1: return Integer.bitCount(set);
            default: return now.sumOf(set, COST);
        }
    }

    private static int digitSet(int code, int size) {
        int set = 0;
        int rest = code;
        for (int i = 0; i < size; i++) {
            set |= 1 << rest % ORDER_BASE;
            rest /= ORDER_BASE;
        }
        return set;
    }

    /** Behind how many years all are over, if the digits of a code are pushed in turn; above ORDER_YEARS: never. */
    private int orderYears(int code, int size, int gap) {
        melt.begin(now.held);
        for (int n = 1; n <= ORDER_YEARS; n++) {
            melt.passYear(orderPushes(code, size, gap, n - 1));
            if (melt.over == now.all()) {
                return n;
            }
        }
        return ORDER_YEARS + 1;
    }

    private static int orderPushes(int code, int size, int gap, int year) {
        int set = 0;
        int rest = code;
        for (int i = size - 1; i >= 0; i--) {
            if (i * gap == year) {
                set |= 1 << rest % ORDER_BASE;
            }
            rest /= ORDER_BASE;
        }
        return set;
    }

    private long chanceOf(int set) {
        long weight = 1;
        for (int place = 0; place < now.places; place++) {
            int chance = now.traits[place][CHANCE];
            weight *= (set >> place & 1) != 0 ? chance : TENTHS - chance;
        }
        return weight;
    }

    private int drawnSet() {
        int set = 0;
        for (int place = 0; place < now.places; place++) {
            if (now.draw() % TENTHS < now.traits[place][CHANCE]) {
                set |= 1 << place;
            }
        }
        return set;
    }

    /**
     * How many come to be over, the one to move with so many turns left; the turns bound the depth. What the two
     * can have elsewhere, low and high, ends a search that can't matter any more.
     */
    private int bestPush(int turns, int pushed, int held, int low, int high) {
        if (turns <= 0) {
            return Integer.bitCount(melt.standOf(pushed, held));
        }
        int free = now.all() & ~pushed & ~held;
        if (free == 0) {
            return bestHold(turns, pushed, held, low, high);
        }
        int best = -1;
        for (int place = 0; place < now.places && best < high; place++) {
            if ((free >> place & 1) != 0) {
                best = Math.max(best, bestHold(turns, pushed | 1 << place, held, Math.max(low, best), high));
            }
        }
        return best;
    }

    private int bestHold(int turns, int pushed, int held, int low, int high) {
        int free = now.all() & ~pushed & ~held;
        if (free == 0) {
            return bestPush(turns - 1, pushed, held, low, high);
        }
        int best = MAX_PLACES + 1;
        for (int place = 0; place < now.places && best > low; place++) {
            if ((free >> place & 1) != 0) {
                best = Math.min(best, bestPush(turns - 1, pushed, held | 1 << place, low, Math.min(high, best)));
            }
        }
        return best;
    }

    private boolean bringsLayers(int set, Sheet sheet) {
        melt.begin(now.held);
        int seen = 0;
        for (int n = 1; n <= STAND_YEARS; n++) {
            melt.passYear(n == 1 ? set : 0);
            if (!areAll(melt.over & ~seen, sheet, n)) {
                return false;
            }
            seen |= melt.over;
        }
        return areAll(now.all() & ~seen, sheet, 0);
    }

    private boolean areAll(int set, Sheet sheet, int number) {
        for (int place = 0; place < now.places; place++) {
            if ((set >> place & 1) != 0 && sheet.numbers[place] != number) {
                return false;
            }
        }
        return true;
    }

    /** All that an image keeps. */
    private static final class World {
        private int places;
        private int ties;
        private int pushes;
        private int held;
        private int z = 1;
        private final int[][] traits = new int[MAX_PLACES][TRAITS];
        // By who gives and who gets; 0 without a tie.
        private final int[][] parts = new int[MAX_PLACES][MAX_PLACES];
        private final int[] pushYears = new int[MAX_PUSHES];
        private final int[] pushPlaces = new int[MAX_PUSHES];
        private final int[] spots = new int[SPOTS];

        private World() {
            Arrays.fill(spots, NOTHING);
        }

        private void become(World other) {
            places = other.places;
            ties = other.ties;
            pushes = other.pushes;
            held = other.held;
            z = other.z;
            for (int place = 0; place < MAX_PLACES; place++) {
                System.arraycopy(other.traits[place], 0, traits[place], 0, TRAITS);
                System.arraycopy(other.parts[place], 0, parts[place], 0, MAX_PLACES);
            }
            System.arraycopy(other.pushYears, 0, pushYears, 0, MAX_PUSHES);
            System.arraycopy(other.pushPlaces, 0, pushPlaces, 0, MAX_PUSHES);
            System.arraycopy(other.spots, 0, spots, 0, SPOTS);
        }

        private int all() {
            return (1 << places) - 1;
        }

        /** A new place behind the others; the caller has looked that there is room. */
        private int[] addPlace(int kind, int bar) {
            int[] row = traits[places];
            places++;
            Arrays.fill(row, 0);
            row[OF_KIND] = kind;
            row[BAR] = bar;
            row[COST] = 1;
            row[PRICE] = 1;
            row[SPOILS] = NOTHING;
            return row;
        }

        private void putTie(int from, int to, int part) {
            if (parts[from][to] == 0) {
                ties++;
            }
            parts[from][to] = part;
        }

        /** What a place's height would be with some bar. */
        private int heightOf(int place, int bar) {
            switch (traits[place][OF_KIND]) {
                case TOLD: return Math.max(1, bar / 2);
                case PART: return Math.max(1, bar - 10 * traits[place][STEPS]);
                default: return bar;
            }
        }

        private int pushedIn(int year) {
            int set = 0;
            for (int i = 0; i < pushes; i++) {
                if (pushYears[i] == year) {
                    set |= 1 << pushPlaces[i];
                }
            }
            return set;
        }

        private int sumOf(int set, int trait) {
            int sum = 0;
            for (int place = 0; place < places; place++) {
                if ((set >> place & 1) != 0) {
                    sum += traits[place][trait];
                }
            }
            return sum;
        }

        private int fullSpots() {
            int full = 0;
            for (int i = 0; i < SPOTS; i++) {
                if (spots[i] != NOTHING) {
                    full++;
                }
            }
            return full;
        }

        private int draw() {
            z = z * 1103515245 + 12345;
            return z >>> 8;
        }
    }

    /** The years of a world, one by one, from a beginning with nobody over. */
    private static final class Melt {
        private final World world;
        private final int[] heights = new int[MAX_PLACES];
        // The ties to each place, closed up: a year is asked for far more often than ties change.
        private final int[] givers = new int[MAX_PLACES];
        private final int[] giverCounts = new int[MAX_PLACES];
        private final int[][] giverAt = new int[MAX_PLACES][MAX_PLACES];
        private final int[][] partAt = new int[MAX_PLACES][MAX_PLACES];
        private final int[] onWay = new int[MAX_PLACES];
        private int over;
        private int drowned;
        private int held;

        private Melt(World world) {
            this.world = world;
        }

        private void survey() {
            lowerBars(0);
            for (int to = 0; to < world.places; to++) {
                int ties = 0;
                int set = 0;
                for (int from = 0; from < world.places; from++) {
                    int part = world.parts[from][to];
                    if (part > 0) {
                        giverAt[to][ties] = from;
                        partAt[to][ties] = part;
                        set |= 1 << from;
                        ties++;
                    }
                }
                giverCounts[to] = ties;
                givers[to] = set;
            }
        }

        /** Heights as if each bar were less, until the next survey. */
        private void lowerBars(int less) {
            for (int place = 0; place < world.places; place++) {
                takeBar(place, Math.max(1, world.traits[place][BAR] - less));
            }
        }

        private void takeBar(int place, int bar) {
            heights[place] = world.heightOf(place, bar);
        }

        private int mustBePushed() {
            int set = 0;
            for (int place = 0; place < world.places; place++) {
                if (gets(place, world.all()) < heights[place]) {
                    set |= 1 << place;
                }
            }
            return set;
        }

        private boolean standsAll(int set) {
            return standOf(set, world.held) == world.all();
        }

        private int standOf(int set, int heldThen) {
            begin(heldThen);
            boolean moves = passYear(set);
            // A year without pushes that changes nothing is like all that come behind it.
            for (int year = 1; year < STAND_YEARS && moves; year++) {
                moves = passYear(0);
            }
            return over;
        }

        private void begin(int heldThen) {
            over = 0;
            drowned = 0;
            held = heldThen;
            Arrays.fill(onWay, 0);
        }

        /** One year; whether anything is not as it was. */
        private boolean passYear(int pushed) {
            int before = over;
            over |= pushed & ~held & ~drowned;
            int then = over;
            boolean moves = pushed != 0;
            for (int place = 0; place < world.places; place++) {
                int bit = 1 << place;
                if ((then & bit) != 0) {
                    if ((pushed & bit) == 0 && falls(place, then)) {
                        over &= ~bit;
                        onWay[place] = 0;
                        moves = true;
                    }
                } else if (((held | drowned) & bit) == 0 && walk(place, goes(place, then))) {
                    moves = true;
                }
            }
            drownSpoilt(over & ~before);
            return moves;
        }

        /** One year of a place that is not over yet; whether anything is not as it was. */
        private boolean walk(int place, boolean goes) {
            int was = onWay[place];
            if (!goes) {
                onWay[place] = 0;
                return was != 0;
            }
            onWay[place]++;
            if (onWay[place] > world.traits[place][TAKES]) {
                over |= 1 << place;
            }
            return true;
        }

        private void drownSpoilt(int came) {
            int spoilt = 0;
            for (int place = 0; place < world.places; place++) {
                int spoils = world.traits[place][SPOILS];
                if ((came >> place & 1) != 0 && world.traits[place][OF_KIND] == DROWN && spoils >= 0) {
                    spoilt |= 1 << spoils;
                }
            }
            drowned |= spoilt;
            over &= ~spoilt;
            for (int place = 0; place < world.places; place++) {
                if ((spoilt >> place & 1) != 0) {
                    onWay[place] = 0;
                }
            }
        }

        private int gets(int place, int from) {
            int sum = 0;
            for (int i = 0; i < giverCounts[place]; i++) {
                if ((from >> giverAt[place][i] & 1) != 0) {
                    sum += partAt[place][i];
                }
            }
            return sum;
        }

        private boolean goes(int place, int then) {
            if (gets(place, then) < heights[place]) {
                return false;
            }
            return world.traits[place][OF_KIND] != COMPANY || Integer.bitCount(then & givers[place]) >= 2;
        }

        private boolean falls(int place, int then) {
            int[] row = world.traits[place];
            switch (row[OF_KIND]) {
                case BACK: return gets(place, then) < row[LOWER];
                case PART: return row[STEPS] == 0 && gets(place, then) < row[LOWER];
                default: return false;
            }
        }
    }

    /** The tape, and the text that is read from it token by token. */
    private static final class Tape {
        private static final int ENDED = 0;
        private static final int WORD = 1;
        private static final int NUMBER = 2;
        private static final int SIGN = 3;
        private static final int NO_TOKEN = 4;
        // Above all numbers that can stand anywhere, so that longer ones need not be told apart.
        private static final int TOO_GREAT = 10000;

        private final int[] bytes = new int[MAX_TAPE];
        private int length;
        private int token;
        private int start;
        private int end;
        private int number;

        private void append(int value) {
            if (length < MAX_TAPE) {
                bytes[length] = value & 255;
                length++;
            }
        }

        /** Puts the text's places and ties into a world; its fault, or -1. What a faulty text leaves is for nobody. */
        private int readText(World w) {
            end = 0;
            nextToken();
            // Each item takes a token at least.
            for (int items = 0; items <= MAX_TAPE; items++) {
                boolean whole = token == NUMBER ? readTie(w) : readPlace(w);
                if (!whole) {
                    return start;
                }
                if (token == ENDED) {
                    return -1;
                }
                if (token != SIGN) {
                    return start;
                }
                nextToken();
            }
            return start;
        }

        private boolean readPlace(World w) {
            int kind = kindHere();
            if (kind < 0 || w.places >= MAX_PLACES) {
                return false;
            }
            nextToken();
            if (!isNumber(1, MAX_BAR)) {
                return false;
            }
            int[] row = w.addPlace(kind, number);
            nextToken();
            for (int words = 0; words <= MAX_TAPE && token == WORD; words++) {
                int trait = traitHere();
                if (trait < 0) {
                    return false;
                }
                nextToken();
                if (!isNumber(LEAST[trait], GREATEST[trait])) {
                    return false;
                }
                row[trait] = number;
                nextToken();
            }
            return true;
        }

        private boolean readTie(World w) {
            if (!isNumber(0, w.places - 1) || w.ties >= MAX_TIES) {
                return false;
            }
            int from = number;
            nextToken();
            if (!isWord("to")) {
                return false;
            }
            nextToken();
            if (!isNumber(0, w.places - 1) || number == from || w.parts[from][number] != 0) {
                return false;
            }
            int to = number;
            nextToken();
            if (!isWord("by")) {
                return false;
            }
            nextToken();
            if (!isNumber(1, MAX_PART)) {
                return false;
            }
            w.putTie(from, to, number);
            nextToken();
            return true;
        }

        private void nextToken() {
            start = end;
            while (start < length && bytes[start] == ' ') {
                start++;
            }
            end = start;
            if (start >= length) {
                token = ENDED;
            } else if (isLetter(bytes[start])) {
                token = WORD;
                while (end < length && isLetter(bytes[end])) {
                    end++;
                }
            } else if (isDigit(bytes[start])) {
                token = NUMBER;
                takeNumber();
            } else {
                token = bytes[start] == ';' ? SIGN : NO_TOKEN;
                end++;
            }
        }

        private void takeNumber() {
            number = 0;
            while (end < length && isDigit(bytes[end])) {
                number = Math.min(TOO_GREAT, number * 10 + bytes[end] - '0');
                end++;
            }
        }

        private static boolean isLetter(int value) {
            return value >= 'a' && value <= 'z';
        }

        private static boolean isDigit(int value) {
            return value >= '0' && value <= '9';
        }

        private boolean isNumber(int least, int greatest) {
            return token == NUMBER && number >= least && number <= greatest;
        }

        private boolean isWord(String word) {
            if (token != WORD || end - start != word.length()) {
                return false;
            }
            for (int i = 0; i < word.length(); i++) {
                if (bytes[start + i] != word.charAt(i)) {
                    return false;
                }
            }
            return true;
        }

        private int kindHere() {
            for (int kind = 0; kind < KINDS; kind++) {
                if (isWord(kindName(kind))) {
                    return kind;
                }
            }
            return -1;
        }

        private int traitHere() {
            for (int trait = LOWER; trait <= CHANCE; trait++) {
                if (isWord(traitName(trait))) {
                    return trait;
                }
            }
            return -1;
        }

        private static String kindName(int kind) {
            switch (kind) {
                case PLACE: return "place";
                case STAY: return "stay";
                case BACK: return "back";
                case COMPANY: return "company";
                case DROWN: return "drown";
                case PART: return "part";
                default: return "told";
            }
        }

        private static String traitName(int trait) {
            switch (trait) {
                case LOWER: return "lower";
                case TAKES: return "takes";
                case COST: return "cost";
                case PRICE: return "price";
                default: return "chance";
            }
        }
    }

    /** A row of numbers; of 0 bits it is missing. */
    private static final class Sheet {
        private int bits;
        private int length;
        private final int[] numbers = new int[SHEET_ROOM];

        private int lowestBits(int v) {
            switch (bits) {
                case 8: return (byte) v;
                case 16: return (short) v;
                default: return v;
            }
        }

        private boolean hasRow(int from, int n) {
            return from >= 0 && n >= 0 && from <= length && n <= length - from;
        }
    }
}
