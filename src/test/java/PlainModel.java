import java.util.ArrayList;
import java.util.Arrays;
import java.util.Collections;
import java.util.List;
import java.util.TreeMap;
import java.util.TreeSet;
import java.util.regex.Matcher;
import java.util.regex.Pattern;

/**
 * The document said a second time, as plainly as can be and without a thought for speed: no search is cut short,
 * kinds are classes, sets are sets. ModelTest holds MeltPins against it.
 */
public final class PlainModel {
    static final int BEYOND = -1000001, FULL = -1000002, KIND = -1000003, NONE = -1000004, STATE = -1000005,
        MISSING = -1000006, SIZE = -1000007;

    static class Spot0 {
        int kind, bar, lower, takes, cost = 1, price = 1, chance, spoils = -1, steps;
        boolean held;

        Spot0 twin() {
            Spot0 p = new Spot0();
            p.kind = kind; p.bar = bar; p.lower = lower; p.takes = takes; p.cost = cost; p.price = price;
            p.chance = chance; p.spoils = spoils; p.steps = steps; p.held = held;
            return p;
        }
    }

    static class PlaceKind {
        int height(Spot0 p) { return p.bar; }
        boolean goes(Spot0 p, int gets, int beside) { return gets >= height(p); }
        boolean falls(Spot0 p, int gets) { return false; }
    }

    static class StayKind extends PlaceKind { }

    static class BackKind extends PlaceKind {
        @Override boolean falls(Spot0 p, int gets) { return gets < p.lower; }
    }

    static class CompanyKind extends StayKind {
        @Override boolean goes(Spot0 p, int gets, int beside) { return super.goes(p, gets, beside) && beside >= 2; }
    }

    static class DrownKind extends StayKind { }

    static class PartKind extends BackKind {
        @Override int height(Spot0 p) { return Math.max(1, super.height(p) - 10 * p.steps); }
        @Override boolean falls(Spot0 p, int gets) { return p.steps == 0 && super.falls(p, gets); }
    }

    static class ToldKind extends CompanyKind {
        @Override int height(Spot0 p) { return Math.max(1, super.height(p) / 2); }
        @Override boolean goes(Spot0 p, int gets, int beside) { return gets >= height(p); }
    }

    static final PlaceKind[] KINDS = {new PlaceKind(), new StayKind(), new BackKind(), new CompanyKind(),
        new DrownKind(), new PartKind(), new ToldKind()};

    static class State {
        List<Spot0> places = new ArrayList<>();
        TreeMap<Integer, Integer> ties = new TreeMap<>();
        List<int[]> plan = new ArrayList<>();
        int z = 1;
        int[] spots = new int[10];

        State() { Arrays.fill(spots, -1); }

        State twin() {
            State s = new State();
            for (Spot0 p : places) s.places.add(p.twin());
            s.ties.putAll(ties);
            for (int[] push : plan) s.plan.add(push.clone());
            s.z = z;
            s.spots = spots.clone();
            return s;
        }

        int part(int from, int to) { return ties.getOrDefault(from * 100 + to, 0); }
    }

    /** Years of a state; held is told apart, as some calls hold more. */
    static class Years {
        final State s;
        final TreeSet<Integer> over = new TreeSet<>(), drowned = new TreeSet<>(), held;
        final int[] way;

        Years(State s, TreeSet<Integer> held) {
            this.s = s;
            this.held = held;
            way = new int[s.places.size()];
        }

        int gets(int p, TreeSet<Integer> who) {
            int sum = 0;
            for (int q : who) sum += s.part(q, p);
            return sum;
        }

        void pass(TreeSet<Integer> pushed) {
            TreeSet<Integer> before = new TreeSet<>(over);
            for (int p : pushed) if (!held.contains(p) && !drowned.contains(p)) over.add(p);
            TreeSet<Integer> then = new TreeSet<>(over);
            for (int p = 0; p < way.length; p++) {
                Spot0 it = s.places.get(p);
                int gets = gets(p, then), beside = 0;
                for (int q : then) if (s.part(q, p) > 0) beside++;
                if (then.contains(p)) {
                    if (!pushed.contains(p) && KINDS[it.kind].falls(it, gets)) { over.remove(p); way[p] = 0; }
                } else if (!held.contains(p) && !drowned.contains(p)) {
                    way[p] = KINDS[it.kind].goes(it, gets, beside) ? way[p] + 1 : 0;
                    if (way[p] > it.takes) over.add(p);
                }
            }
            TreeSet<Integer> wet = new TreeSet<>();
            for (int p : over) {
                Spot0 it = s.places.get(p);
                if (!before.contains(p) && KINDS[it.kind] instanceof DrownKind && it.spoils >= 0) wet.add(it.spoils);
            }
            for (int p : wet) { drowned.add(p); over.remove(p); way[p] = 0; }
        }
    }

    static class Sheet0 {
        int bits;
        int[] numbers = new int[0];
    }

    State now = new State(), kept;
    StringBuilder tape = new StringBuilder();
    Sheet0[] sheets = {new Sheet0(), new Sheet0(), new Sheet0(), new Sheet0()};
    int[] told = new int[7];

    int no(int finding) { told[BEYOND - finding]++; return finding; }
    int size() { return now.places.size(); }
    boolean place(int p) { return 0 <= p && p < size(); }
    boolean set(int s) { return 0 <= s && s < 1 << size(); }
    static boolean in(int v, int low, int high) { return low <= v && v <= high; }

    static TreeSet<Integer> members(int bits) {
        TreeSet<Integer> set = new TreeSet<>();
        for (int p = 0; p < 32; p++) if ((bits & 1 << p) != 0) set.add(p);
        return set;
    }

    static int bits(Iterable<Integer> set) {
        int bits = 0;
        for (int p : set) bits |= 1 << p;
        return bits;
    }

    static TreeSet<Integer> held(State s) {
        TreeSet<Integer> set = new TreeSet<>();
        for (int p = 0; p < s.places.size(); p++) if (s.places.get(p).held) set.add(p);
        return set;
    }

    // ---- the world

    public int feed(int bytes, int n) {
        if (!in(n, 1, 4)) return no(BEYOND);
        if (tape.length() + n > 120) return no(FULL);
        for (int i = n; i > 0; i--) tape.append((char) (bytes >>> 8 * (i - 1) & 255));
        return tape.length();
    }

    public int wipe() {
        int had = tape.length();
        tape = new StringBuilder();
        return had;
    }

    @SuppressWarnings("serial")
    static class Fault extends Exception {
        final int at;
        Fault(int at) { super("at " + at); this.at = at; }
    }

    static class Text {
        final List<String> tokens = new ArrayList<>();
        final List<Integer> starts = new ArrayList<>();
        final int length;
        int at;

        Text(String text) {
            length = text.length();
            Matcher m = Pattern.compile("[a-z]+|[0-9]+|;| +|.", Pattern.DOTALL).matcher(text);
            while (m.find()) {
                if (m.group().charAt(0) != ' ') { tokens.add(m.group()); starts.add(m.start()); }
            }
        }

        boolean ended() { return at >= tokens.size(); }
        Fault fault() { return new Fault(ended() ? length : starts.get(at)); }
        String here() { return ended() ? "" : tokens.get(at); }
        boolean number() { return here().matches("[0-9]+"); }

        int number(int low, int high) throws Fault {
            if (!number()) throw fault();
            java.math.BigInteger v = new java.math.BigInteger(here());
            if (v.bitLength() > 20 || !in(v.intValue(), low, high)) throw fault();
            at++;
            return v.intValue();
        }

        void word(String word) throws Fault {
            if (!here().equals(word)) throw fault();
            at++;
        }
    }

    static final List<String> NAMES = List.of("place", "stay", "back", "company", "drown", "part", "told");

    static void item(Text t, State s) throws Fault {
        if (t.number()) {
            if (s.ties.size() == 40) throw t.fault();
            int from = t.number(0, s.places.size() - 1);
            t.word("to");
            Fault second = t.fault();
            int to = t.number(0, s.places.size() - 1);
            if (from == to || s.part(from, to) > 0) throw second;
            t.word("by");
            s.ties.put(from * 100 + to, t.number(1, 99));
            return;
        }
        Spot0 p = new Spot0();
        p.kind = NAMES.indexOf(t.here());
        if (p.kind < 0 || s.places.size() == 12) throw t.fault();
        t.at++;
        p.bar = t.number(1, 99);
        s.places.add(p);
        while (t.here().matches("[a-z]+")) {
            String word = t.here();
            if (!List.of("lower", "takes", "cost", "price", "chance").contains(word)) throw t.fault();
            t.at++;
            if (word.equals("lower")) p.lower = t.number(0, 99);
            if (word.equals("takes")) p.takes = t.number(0, 9);
            if (word.equals("cost")) p.cost = t.number(1, 99);
            if (word.equals("price")) p.price = t.number(1, 99);
            if (word.equals("chance")) p.chance = t.number(0, 10);
        }
    }

    public int world() {
        State s = now.twin();
        Text t = new Text(tape.toString());
        tape = new StringBuilder();
        try {
            item(t, s);
            while (!t.ended()) {
                t.word(";");
                item(t, s);
            }
        } catch (Fault f) {
            return -1 - f.at;
        }
        now = s;
        return size();
    }

    public int placeOf(int place, int what) {
        if (!place(place)) return no(BEYOND);
        Spot0 p = now.places.get(place);
        switch (what) {
            case 0: return p.kind;
            case 1: return p.bar;
            case 2: return p.lower;
            case 3: return p.takes;
            case 4: return p.cost;
            case 5: return p.price;
            case 6: return p.chance;
            case 7: return p.spoils;
            case 8: return p.steps;
            case 9: return KINDS[p.kind].height(p);
            case 10: return p.held ? 1 : 0;
            default: return no(BEYOND);
        }
    }

    public int change(int place, int what, int v) {
        if (!place(place) || !in(what, 1, 7)) return no(BEYOND);
        Spot0 p = now.places.get(place);
        boolean fits = what == 1 || what == 4 || what == 5 ? in(v, 1, 99) : what == 2 ? in(v, 0, 99)
            : what == 3 ? in(v, 0, 9) : what == 6 ? in(v, 0, 10) : v == -1 || place(v) && v != place;
        if (!fits) return no(BEYOND);
        int was = placeOf(place, what);
        if (what == 1) p.bar = v;
        if (what == 2) p.lower = v;
        if (what == 3) p.takes = v;
        if (what == 4) p.cost = v;
        if (what == 5) p.price = v;
        if (what == 6) p.chance = v;
        if (what == 7) p.spoils = v;
        return was;
    }

    public int step(int place) {
        if (!place(place)) return no(BEYOND);
        if (now.places.get(place).steps == 9) return no(FULL);
        return ++now.places.get(place).steps;
    }

    public int tie(int from, int to, int part) {
        if (!place(from) || !place(to) || from == to || !in(part, 1, 99)) return no(BEYOND);
        int was = now.part(from, to);
        if (was == 0 && now.ties.size() == 40) return no(FULL);
        now.ties.put(from * 100 + to, part);
        return was;
    }

    public int tieOf(int from, int to) {
        return place(from) && place(to) ? now.part(from, to) : no(BEYOND);
    }

    public int cut(int from, int to) {
        if (!place(from) || !place(to)) return no(BEYOND);
        if (now.ties.remove(from * 100 + to) == null) return no(NONE);
        return now.ties.size();
    }

    public int hold(int place, boolean is) {
        if (!place(place)) return no(BEYOND);
        int was = now.places.get(place).held ? 1 : 0;
        now.places.get(place).held = is;
        return was;
    }

    // ---- the plan

    public int push(int year, int place) {
        if (!in(year, 0, 49) || !place(place)) return no(BEYOND);
        for (int[] p : now.plan) if (p[0] == year && p[1] == place) return no(STATE);
        if (now.plan.size() == 20) return no(FULL);
        now.plan.add(new int[] {year, place});
        return now.plan.size();
    }

    public int pushOf(int i, int what) {
        return in(i, 0, now.plan.size() - 1) && in(what, 0, 1) ? now.plan.get(i)[what] : no(BEYOND);
    }

    public int clear() {
        int had = now.plan.size();
        now.plan.clear();
        return had;
    }

    void passPlan(Years y, int year) {
        TreeSet<Integer> pushed = new TreeSet<>();
        for (int[] p : now.plan) if (p[0] == year) pushed.add(p[1]);
        y.pass(pushed);
    }

    Years behind(int n) {
        Years y = new Years(now, held(now));
        for (int year = 0; year < n; year++) passPlan(y, year);
        return y;
    }

    public int run(int n, int what) {
        if (!in(n, 0, 99) || !in(what, 0, 1)) return no(BEYOND);
        return bits(what == 0 ? behind(n).over : behind(n).drowned);
    }

    public int runOf(int n, int place, int what) {
        if (!in(n, 0, 99) || !place(place) || !in(what, 0, 1)) return no(BEYOND);
        Years y = behind(n);
        return what == 0 ? y.way[place] : y.gets(place, y.over);
    }

    public int when(int place) {
        if (!place(place)) return no(BEYOND);
        for (int n = 1; n <= 99; n++) if (behind(n).over.contains(place)) return n;
        return no(NONE);
    }

    public int settles() {
        List<String> seen = new ArrayList<>();
        for (int n = 0; n <= 99; n++) { Years y = behind(n); seen.add(y.over + "/" + y.drowned); }
        for (int n = 0; n <= 99; n++) if (new TreeSet<>(seen.subList(n, 100)).size() == 1) return n;
        return 99;
    }

    // ---- sets

    static TreeSet<Integer> standing(State s, TreeSet<Integer> set, TreeSet<Integer> held) {
        Years y = new Years(s, held);
        for (int year = 0; year < 24; year++) y.pass(year == 0 ? set : new TreeSet<>());
        return y.over;
    }

    static TreeSet<Integer> standing(State s, int set) { return standing(s, members(set), held(s)); }

    static boolean all(State s, int set) { return standing(s, set).size() == s.places.size(); }

    public int stand(int set) { return set(set) ? bits(standing(now, set)) : no(BEYOND); }

    public int late(int set) {
        if (!set(set)) return no(BEYOND);
        Years y = new Years(now, held(now));
        for (int n = 1; n <= 24; n++) {
            y.pass(n == 1 ? members(set) : new TreeSet<>());
            if (y.over.size() == size()) return n;
        }
        return no(NONE);
    }

    int costs(int set) {
        int sum = 0;
        for (int p : members(set)) sum += now.places.get(p).cost;
        return sum;
    }

    int leastOf(int what, boolean fewest) {
        if (!in(what, 0, 2)) return no(BEYOND);
        List<int[]> fit = new ArrayList<>();
        for (int set = 0; set < 1 << size(); set++) {
            if (all(now, set)) {
                int many = members(set).size(), cost = costs(set);
                fit.add(fewest ? new int[] {many, cost, set} : new int[] {cost, many, set});
            }
        }
        if (fit.isEmpty()) return no(NONE);
        int[] best = Collections.min(fit, Arrays::compare);
        return what == 0 ? best[2] : what == 1 ? members(best[2]).size() : costs(best[2]);
    }

    public int fewest(int what) { return leastOf(what, true); }

    public int cheapest(int what) { return leastOf(what, false); }

    public int most(int n, int what) {
        if (n < 0 || !in(what, 0, 1)) return no(BEYOND);
        if (n > size()) return no(NONE);
        List<int[]> sets = new ArrayList<>();
        for (int set = 0; set < 1 << size(); set++) {
            if (members(set).size() == n) sets.add(new int[] {-standing(now, set).size(), set});
        }
        int[] best = Collections.min(sets, Arrays::compare);
        return what == 0 ? best[1] : -best[0];
    }

    public int must() {
        TreeSet<Integer> must = new TreeSet<>();
        for (int p = 0; p < size(); p++) {
            int gets = 0;
            for (int q = 0; q < size(); q++) gets += now.part(q, p);
            if (gets < placeOf(p, 9)) must.add(p);
        }
        return bits(must);
    }

    void orders(List<Integer> told, TreeSet<Integer> left, int gap, List<int[]> found) {
        for (int p : left) {
            List<Integer> more = new ArrayList<>(told);
            more.add(p);
            TreeSet<Integer> less = new TreeSet<>(left);
            less.remove(p);
            orders(more, less, gap, found);
        }
        if (!left.isEmpty()) return;
        int code = 0;
        for (int p : told) code = code * 12 + p;
        Years y = new Years(now, held(now));
        for (int n = 1; n <= 49; n++) {
            TreeSet<Integer> pushed = new TreeSet<>();
            for (int i = 0; i < told.size(); i++) if (i * gap == n - 1) pushed.add(told.get(i));
            y.pass(pushed);
            if (y.over.size() == size()) { found.add(new int[] {n, code}); return; }
        }
    }

    public int order(int set, int gap, int what) {
        if (!set(set) || !in(members(set).size(), 1, 4) || !in(gap, 0, 5) || !in(what, 0, 1)) return no(BEYOND);
        List<int[]> found = new ArrayList<>();
        orders(new ArrayList<>(), members(set), gap, found);
        return found.isEmpty() ? no(NONE) : Collections.min(found, Arrays::compare)[what];
    }

    public int stop(int set, int what) {
        if (!set(set) || !in(what, 0, 1)) return no(BEYOND);
        List<int[]> fit = new ArrayList<>();
        for (int more = 0; more < 1 << size(); more++) {
            TreeSet<Integer> held = held(now);
            if ((more & (set | bits(held))) != 0) continue;
            held.addAll(members(more));
            int price = 0;
            for (int p : members(more)) price += now.places.get(p).price;
            if (members(set).containsAll(standing(now, members(set), held))) {
                fit.add(new int[] {members(more).size(), price, more});
            }
        }
        int[] best = Collections.min(fit, Arrays::compare);
        return what == 0 ? best[2] : best[1];
    }

    public int near(int set) {
        if (!set(set)) return no(BEYOND);
        for (int less = 0; less <= 98; less++) {
            State s = now.twin();
            for (Spot0 p : s.places) p.bar = Math.max(1, p.bar - less);
            if (all(s, set)) return less;
        }
        return no(NONE);
    }

    public int look() {
        List<int[]> seen = new ArrayList<>();
        for (int p = 0; p < size(); p++) seen.add(new int[] {-standing(now, 1 << p).size(), p});
        return seen.isEmpty() ? no(NONE) : Collections.min(seen, Arrays::compare)[1];
    }

    public int edge(int set, int place) {
        if (!set(set) || !place(place)) return no(BEYOND);
        int best = NONE;
        for (int bar = 1; bar <= 99; bar++) {
            State s = now.twin();
            s.places.get(place).bar = bar;
            if (all(s, set)) best = bar;
        }
        return best == NONE ? no(NONE) : best;
    }

    // ---- chances, two

    public long likely() {
        long sum = 0;
        for (int set = 0; set < 1 << size(); set++) {
            if (!all(now, set)) continue;
            long weight = 1;
            for (int p = 0; p < size(); p++) {
                int c = now.places.get(p).chance;
                weight *= members(set).contains(p) ? c : 10 - c;
            }
            sum += weight;
        }
        return sum;
    }

    public int century(int n) {
        if (!in(n, 1, 50)) return no(BEYOND);
        int come = 0;
        for (int time = 0; time < n; time++) {
            TreeSet<Integer> set = new TreeSet<>();
            for (int p = 0; p < size(); p++) {
                now.z = now.z * 1103515245 + 12345;
                if ((now.z >>> 8) % 10 < now.places.get(p).chance) set.add(p);
            }
            if (standing(now, set, held(now)).size() == size()) come++;
        }
        return come;
    }

    public int seed(int v) {
        int was = now.z;
        now.z = v;
        return was;
    }

    int play(int turn, int turns, TreeSet<Integer> pushed, TreeSet<Integer> held) {
        if (turn == 2 * turns) return standing(now, pushed, held).size();
        List<Integer> outcomes = new ArrayList<>();
        for (int p = 0; p < size(); p++) {
            if (pushed.contains(p) || held.contains(p)) continue;
            TreeSet<Integer> a = new TreeSet<>(pushed), b = new TreeSet<>(held);
            (turn % 2 == 0 ? a : b).add(p);
            outcomes.add(play(turn + 1, turns, a, b));
        }
        if (outcomes.isEmpty()) return play(turn + 1, turns, pushed, held);
        return turn % 2 == 0 ? Collections.max(outcomes) : Collections.min(outcomes);
    }

    public int game(int n, int what) {
        if (!in(n, 1, 2) || !in(what, 0, 1)) return no(BEYOND);
        int value = play(0, n, new TreeSet<>(), held(now));
        if (what == 0) return value;
        for (int p = 0; p < size(); p++) {
            if (!now.places.get(p).held && play(1, n, members(1 << p), held(now)) == value) return p;
        }
        return -1;
    }

    // ---- layers

    public int first(int s) {
        if (!in(s, 0, 3)) return no(BEYOND);
        if (sheets[s].bits == 0) return no(MISSING);
        List<int[]> fit = new ArrayList<>();
        for (int set = 0; set < 1 << size(); set++) {
            int[] layers = new int[size()];
            Years y = new Years(now, held(now));
            for (int n = 1; n <= 24; n++) {
                y.pass(n == 1 ? members(set) : new TreeSet<>());
                for (int p : y.over) if (layers[p] == 0) layers[p] = n;
            }
            if (Arrays.equals(layers, sheets[s].numbers)) fit.add(new int[] {members(set).size(), set});
        }
        return fit.isEmpty() ? no(NONE) : Collections.min(fit, Arrays::compare)[1];
    }

    public int judge(int s) {
        if (!in(s, 0, 3)) return no(BEYOND);
        if (sheets[s].bits == 0) return no(MISSING);
        for (int i = 0; i < sheets[s].numbers.length; i++) {
            if (behind(i + 1).over.size() != sheets[s].numbers[i]) return 1 + i;
        }
        return 0;
    }

    // ---- spots, sheets

    public int spot(int spot, int place) {
        if (!in(spot, 0, 9) || place != -1 && !place(place)) return no(BEYOND);
        now.spots[spot] = place;
        return 1;
    }

    public int as(int spot, int kind) {
        if (!in(spot, 0, 9) || !in(kind, 0, 6)) return no(BEYOND);
        int p = now.spots[spot];
        if (p < 0) return no(MISSING);
        return KINDS[kind].getClass().isInstance(KINDS[now.places.get(p).kind]) ? p : no(KIND);
    }

    public int sheet(int s, int bits, int n) {
        if (!in(s, 0, 3) || !List.of(0, 8, 16, 32).contains(bits)) return no(BEYOND);
        if (n < 0) return no(SIZE);
        if (n > 40) return no(BEYOND);
        sheets[s].bits = bits;
        sheets[s].numbers = new int[bits == 0 ? 0 : n];
        return sheets[s].numbers.length;
    }

    public int write(int s, int i, int v) {
        if (!in(s, 0, 3)) return no(BEYOND);
        if (sheets[s].bits == 0) return no(MISSING);
        if (!in(i, 0, sheets[s].numbers.length - 1)) return no(BEYOND);
        int spare = 32 - sheets[s].bits;
        sheets[s].numbers[i] = v << spare >> spare;
        return 1;
    }

    public int copy(int s, int from, int t, int to, int n) {
        if (!in(s, 0, 3) || !in(t, 0, 3)) return no(BEYOND);
        if (sheets[s].bits == 0 || sheets[t].bits == 0) return no(MISSING);
        if (sheets[s].bits != sheets[t].bits) return no(KIND);
        int[] source = sheets[s].numbers.clone(), target = sheets[t].numbers;
        if (from < 0 || to < 0 || n < 0 || (long) from + n > source.length || (long) to + n > target.length) {
            return no(BEYOND);
        }
        for (int i = 0; i < n; i++) target[to + i] = source[from + i];
        return n;
    }

    // ---- images

    public int image() {
        kept = now.twin();
        return 1;
    }

    public int undo() {
        if (kept == null) return no(NONE);
        now = kept.twin();
        return size();
    }

    public int tear() {
        int had = kept == null ? 0 : 1;
        kept = null;
        return had;
    }

    public int count(int what) {
        switch (what) {
            case 0: return size();
            case 1: return now.ties.size();
            case 2: return now.plan.size();
            case 3: return held(now).size();
            case 4: return tape.length();
            case 5: return now.z;
            case 6: return (int) Arrays.stream(now.spots).filter(p -> p >= 0).count();
            default: return no(BEYOND);
        }
    }

    public int status(int which) {
        if (which == -1) return Arrays.stream(told).sum();
        return in(which, 0, 6) ? told[which] : no(BEYOND);
    }
}
