import java.util.ArrayList;
import java.util.List;

/** What the tests by hand share: asking, counting what is wrong, worlds to begin with. */
abstract class Check {
    static final int BEYOND = -1000001;
    static final int FULL = -1000002;
    static final int KIND = -1000003;
    static final int NONE = -1000004;
    static final int STATE = -1000005;
    static final int MISSING = -1000006;
    static final int SIZE = -1000007;
    static final int MAX = Integer.MAX_VALUE;
    static final int MIN = Integer.MIN_VALUE;

    private static int wrong = 0;
    private static int asked = 0;
    private static String about = "";

    /** A call on an object. */
    interface Call {
        long on(MeltPins x);
    }

    /** A call with one argument left open. */
    interface With {
        long on(MeltPins x, int v);
    }

    /** Makes one more object, always the same. */
    interface Made {
        MeltPins one();
    }

    static void begin(String what) {
        about = what;
    }

    /** How many were wrong, and a line that tells it. */
    static int tell(String of) {
        System.out.println(asked + " answers asked for " + of + ", " + wrong + " wrong");
        return wrong;
    }

    static void due(long got, long want) {
        asked++;
        if (got != want) {
            wrong++;
            System.out.println(about + ", " + where() + ": answered " + got + ", due is " + want);
        }
    }

    private static String where() {
        for (StackTraceElement at : new Throwable().getStackTrace()) {
            if (!at.getFileName().equals("Check.java")) return at.getFileName() + " line " + at.getLineNumber();
        }
        return "nowhere";
    }

    /** Feeds a text and reads it. */
    static int read(MeltPins x, String text) {
        feed(x, text);
        return x.world();
    }

    static void feed(MeltPins x, String text) {
        for (int at = 0; at < text.length(); at += 4) {
            int n = Math.min(4, text.length() - at);
            int bytes = 0;
            for (int i = 0; i < n; i++) bytes = bytes << 8 | text.charAt(at + i) & 255;
            x.feed(bytes, n);
        }
    }

    /** What a faulty text is answered on a new object, which stays without places. */
    static int fault(String text) {
        MeltPins x = new MeltPins();
        int got = read(x, text);
        due(x.count(0), 0);
        due(x.count(1), 0);
        due(x.count(4), 0);
        due(x.status(-1), 0);
        return got;
    }

    /** A new object with the places and ties of some texts; each of them has to be right. */
    static MeltPins of(String... texts) {
        MeltPins x = new MeltPins();
        for (String text : texts) {
            int places = x.count(0), ties = x.count(1);
            int got = read(x, text);
            if (got < 0 || x.count(0) + x.count(1) == places + ties) throw new IllegalStateException(text + ": " + got);
        }
        return x;
    }

    static MeltPins empty() {
        return new MeltPins();
    }

    /** One place of each kind, by the kinds' numbers, none tied. */
    static MeltPins kinds() {
        return of("place 1;stay 1;back 1;company 1;drown 1;part 1;told 1");
    }

    static MeltPins two() {
        return of("place 1;place 1");
    }

    static MeltPins twelve() {
        return of("place 1;place 1;place 1;place 1;place 1;place 1", "place 1;place 1;place 1;place 1;place 1;place 1");
    }

    /** Twelve places, and forty ties by 5: 0 and 1 to 2 .. 11, 2 and 3 to ten others, but for 0; none to 0. */
    static MeltPins forty() {
        MeltPins x = twelve();
        for (int from = 0; from < 4; from++) {
            int put = 0;
            for (int to = 11; put < 10; to--) if (to != from) { x.tie(from, to, 5); put++; }
        }
        return x;
    }

    /** Of all there can be as much as can be; sheet 3 is missing, 0 and 1 are of 8 bits, 2 is of 16. */
    static MeltPins full() {
        MeltPins x = forty();
        for (int place = 0; place < 12; place++) x.push(0, place);
        for (int year = 1; year <= 8; year++) x.push(year, 0);
        for (int spot = 0; spot < 10; spot++) x.spot(spot, spot);
        for (int i = 0; i < 9; i++) x.step(0);
        row(x, 0, 8, 40, 12);
        row(x, 1, 8, 40, 12);
        row(x, 2, 16, 40, 12);
        x.image();
        for (int i = 0; i < 30; i++) x.feed(0x3b3b3b3b, 4);
        return x;
    }

    /** A sheet of n numbers, all v. */
    static void row(MeltPins x, int s, int bits, int n, int v) {
        x.sheet(s, bits, n);
        if (n > 0) x.write(s, 0, v);
        for (int has = 1; has < n; has *= 2) x.copy(s, 0, s, has, Math.min(has, n - has));
    }

    /** A sheet of the numbers that are told. */
    static void sheetOf(MeltPins x, int s, int bits, int... numbers) {
        x.sheet(s, bits, numbers.length);
        for (int i = 0; i < numbers.length; i++) x.write(s, i, numbers[i]);
    }

    /** Each of six takes ten years behind the one ahead. */
    static MeltPins chain() {
        return of("place 1;place 1 takes 9;place 1 takes 9;0 to 1 by 1;1 to 2 by 1",
            "place 1 takes 9;place 1 takes 9;place 1 takes 9;2 to 3 by 1;3 to 4 by 1;4 to 5 by 1");
    }

    /** 0 brings 1 behind 10 years, 2 behind 20, and 3 behind 24. */
    static MeltPins twentyFour() {
        return of("place 1;place 1 takes 9;place 1 takes 9;place 1 takes 3;0 to 1 by 1;1 to 2 by 1;2 to 3 by 1");
    }

    /** Two of three are over, others each year, and again after three. */
    static MeltPins threeInTurn() {
        return of("back 1 lower 1;back 1 lower 1;back 1 lower 1;0 to 1 by 1;1 to 2 by 1;2 to 0 by 1");
    }

    // ---- what is taken and what is refused

    /** One argument of a call: low and high are taken; what lies beside them, and the ends of the ints, is refused. */
    static void taken(Made made, With call, int low, int high, int below, int above) {
        takes(made, x -> call.on(x, low));
        takes(made, x -> call.on(x, high));
        refused(made, x -> call.on(x, low - 1), below);
        refused(made, x -> call.on(x, MIN), below);
        refused(made, x -> call.on(x, high + 1), above);
        refused(made, x -> call.on(x, MAX), above);
    }

    static void taken(Made made, With call, int low, int high) {
        taken(made, call, low, high, BEYOND, BEYOND);
    }

    /** No finding. */
    static void takes(Made made, Call call) {
        MeltPins x = made.one();
        int told = x.status(-1);
        call.on(x);
        due(x.status(-1), told);
    }

    /** The finding is told, counted as one of its sort, and nothing else is other than it was. */
    static void refused(Made made, Call call, int finding) {
        MeltPins told = made.one();
        int[] before = statuses(told);
        due(call.on(told), finding);
        int[] after = statuses(told);
        for (int i = 0; i < 8; i++) due(after[i] - before[i], i == 7 || i == BEYOND - finding ? 1 : 0);
        same(made, x -> { }, x -> due(call.on(x), finding));
    }

    /** What comes to be of the one object is what comes to be of the other one. */
    static void same(Made made, Deed one, Deed other) {
        for (int part = 0; part < LOOKS; part++) {
            MeltPins a = made.one(), b = made.one();
            one.to(a);
            other.to(b);
            List<Integer> seenA = look(a, part), seenB = look(b, part);
            due(seenA.size(), seenB.size());
            for (int i = 0; i < seenA.size() && i < seenB.size(); i++) due(seenB.get(i), seenA.get(i));
        }
    }

    /** Something done to an object. */
    interface Deed {
        void to(MeltPins x);
    }

    static int[] statuses(MeltPins x) {
        int[] all = new int[8];
        for (int which = 0; which <= 6; which++) all[which] = x.status(which);
        all[7] = x.status(-1);
        return all;
    }

    private static final int LOOKS = 7;

    /** All that can be asked of an object but for status(), in parts, as an object serves no more than 512 calls. */
    private static List<Integer> look(MeltPins x, int part) {
        List<Integer> seen = new ArrayList<>();
        if (part >= 4) seen.add(x.undo());
        switch (part) {
            case 0: case 4: lookAtPlaces(x, seen); break;
            case 1: case 5: lookAtTies(x, seen); break;
            case 2: case 6: lookAtPlan(x, seen); break;
            default: lookAtSheets(x, seen);
        }
        return seen;
    }

    private static void lookAtPlaces(MeltPins x, List<Integer> seen) {
        for (int what = 0; what <= 6; what++) seen.add(x.count(what));
        for (int place = 0; place < x.count(0); place++) {
            for (int what = 0; what <= 10; what++) seen.add(x.placeOf(place, what));
        }
    }

    private static void lookAtTies(MeltPins x, List<Integer> seen) {
        int places = x.count(0);
        for (int from = 0; from < places; from++) {
            for (int to = 0; to < places; to++) seen.add(x.tieOf(from, to));
        }
        // Without a fault only if nothing is left of a text.
        seen.add(x.world());
        seen.add(x.count(0));
    }

    private static void lookAtPlan(MeltPins x, List<Integer> seen) {
        int pushes = x.count(2);
        for (int i = 0; i < pushes; i++) {
            seen.add(x.pushOf(i, 0));
            seen.add(x.pushOf(i, 1));
        }
        for (int spot = 0; spot < 10; spot++) seen.add(x.as(spot, 0));
        for (int s = 0; s < 4; s++) seen.add(x.judge(s));
        for (int n = 0; n < 60; n += 7) seen.add(x.run(n, 0));
        seen.add(x.run(99, 1));
        seen.add(x.century(1));
        seen.add(x.count(5));
    }

    private static void lookAtSheets(MeltPins x, List<Integer> seen) {
        for (int s = 0; s < 4; s++) {
            for (int t = 0; t < 4; t++) seen.add(x.copy(s, 0, t, 0, 0));
            for (int i = 0; i <= 41; i++) seen.add(x.copy(s, i, s, i, 0));
        }
        seen.add(x.tear());
    }
}
