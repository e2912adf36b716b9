import java.lang.reflect.Method;
import java.lang.reflect.Modifier;
import java.util.ArrayList;
import java.util.Comparator;
import java.util.List;

/**
 * Each call with each of the numbers that lie on or beside a bound of the document, and with the ends of the ints, on an
 * empty world, on one of seven places and on a full one: the answers have to be PlainModel's.
 */
public final class SweepTest {
    private static final int[] MANY = {Integer.MIN_VALUE, -1000001, -32, -2, -1, 0, 1, 2, 3, 4, 5, 6, 7, 8, 9, 10, 11, 12, 13, 15, 16,
        19, 20, 21, 24, 25, 31, 32, 33, 39, 40, 41, 49, 50, 51, 64, 98, 99, 100, 119, 120, 127, 128, 255, 256, 2047, 4095, 4096,
        Integer.MAX_VALUE};
    private static final int[] SOME = {Integer.MIN_VALUE, -2, -1, 0, 1, 2, 4, 5, 7, 8, 10, 11, 12, 32, 40, 41, 49, 50, 99, 100,
        Integer.MAX_VALUE};
    private static final int[] FEW = {Integer.MIN_VALUE, -1, 0, 1, 3, 4, 40, Integer.MAX_VALUE};
    private static final int CALLS = 500;

    private static long asked = 0;

    private final int world;
    private Pair pair;

    private SweepTest(int world) {
        this.world = world;
    }

    public static void main(String[] args) throws Exception {
        List<Method> open = new ArrayList<>();
        for (Method m : MeltPins.class.getDeclaredMethods()) if (Modifier.isPublic(m.getModifiers())) open.add(m);
        open.sort(Comparator.comparing(Method::getName));
        for (int world = 0; world < 3; world++) {
            SweepTest test = new SweepTest(world);
            for (Method m : open) {
                test.begin();
                test.sweep(m, new Object[m.getParameterCount()], 0);
            }
        }
        System.out.println(asked + " calls at the bounds agree with the plain model");
    }

    private void sweep(Method m, Object[] args, int at) throws Exception {
        if (at == args.length) {
            if (world == 2 && isSlow(m.getName(), args)) return;
            if (pair.calls() >= CALLS) begin();
            both(m.getName(), args.clone());
            return;
        }
        if (m.getParameterTypes()[at] == boolean.class) {
            for (boolean is : new boolean[] {true, false, true}) {
                args[at] = is;
                sweep(m, args, at + 1);
            }
            return;
        }
        int[] values = args.length <= 2 ? MANY : args.length == 3 ? SOME : FEW;
        for (int v : values) {
            args[at] = v;
            sweep(m, args, at + 1);
        }
    }

    /** Whether the model would have to ask each set of twelve places: ModelTest does so now and then. */
    private static boolean isSlow(String name, Object[] args) {
        int[] v = new int[2];
        for (int i = 0; i < args.length && i < 2; i++) v[i] = args[i] instanceof Integer n ? n : 0;
        switch (name) {
            case "likely": return true;
            case "fewest": case "cheapest": return PlainModel.in(v[0], 0, 2);
            case "most": return PlainModel.in(v[0], 0, 12) && PlainModel.in(v[1], 0, 1);
            case "stop": return PlainModel.in(v[0], 0, 4095) && PlainModel.in(v[1], 0, 1);
            case "game": return v[0] == 2 && PlainModel.in(v[1], 0, 1);
            default: return false;
        }
    }

    private void begin() throws Exception {
        pair = new Pair();
        if (world == 1) {
            for (String text : new String[] {"place 5;stay 4 takes 2;back 9 lower 3;company 4", "drown 6 takes 1;part 30 lower 5;told 8",
                "0 to 1 by 4;1 to 0 by 5;2 to 3 by 3;0 to 3 by 3;1 to 4 by 6;4 to 6 by 4;3 to 5 by 9;5 to 2 by 9"}) read(text);
            both("change", 4, 7, 2);
            both("step", 5);
            for (int i = 0; i < 4; i++) both("push", 2 * i, 3 * i % 7);
            for (int place = 0; place < 7; place++) both("change", place, 6, 3 + place);
            both("spot", 1, 6);
            both("sheet", 0, 8, 7);
            both("sheet", 1, 8, 3);
            both("image");
        }
        if (world == 2) {
            for (int i = 0; i < 12; i++) read(PlainModel.NAMES.get(i % 7) + " " + (3 + i) + " takes " + i % 3);
            for (int i = 0; i < 40; i++) both("tie", i % 12, (i % 12 + 1 + i / 12) % 12, 1 + i % 5);
            for (int i = 0; i < 20; i++) both("push", i / 2, i * 7 % 12);
            for (int i = 0; i < 10; i++) both("spot", i, 11 - i);
            for (int i = 0; i < 9; i++) both("step", 5);
            for (int s = 0; s < 3; s++) both("sheet", s, s == 2 ? 16 : 8, 40);
            for (int i = 0; i < 30; i++) both("feed", 0x20202020, 4);
            both("image");
        }
    }

    private void read(String text) throws Exception {
        for (char sign : text.toCharArray()) both("feed", (int) sign, 1);
        both("world");
    }

    private void both(String name, Object... args) throws Exception {
        asked++;
        pair.both(name, args);
    }
}
