import java.lang.reflect.InvocationTargetException;
import java.lang.reflect.Method;
import java.util.ArrayList;
import java.util.Arrays;
import java.util.List;
import java.util.function.Consumer;

/**
 * Every argument of every method at both of its edges, just beyond them and far beyond them: within
 * it is taken, beyond it is refused, and a refused call (like one that only asks) changes nothing
 * that any later call could tell.
 */
public final class RefusedCallsTest {
    private static final Checks c = new Checks();
    private static final int MIN = Integer.MIN_VALUE;
    private static final int MAX = Integer.MAX_VALUE;
    private static final int NOW = 10;

    public static void main(String[] args) throws ReflectiveOperationException {
        door();
        trials();
        orders();
        stampsAndPapers();
        flightsAndMarks();
        full();
        withoutAnything();
        c.end("RefusedCallsTest");
    }

    /** Six parts (handle, rod, hook, vent, lamp, window), two machines, something of all else, marks 0 and 1. */
    private static NearlyShut rich() {
        NearlyShut x = new NearlyShut();
        x.part(0, -1, 0, 11, 100, 0, 30);
        x.part(1, 0, 1, 11, 50, 30, 0);
        x.part(2, 1, 2, 11, 90, 10, 45);
        x.part(3, 0, 0, 12, 80, 0, 20);
        x.part(4, 0, 3, 23, 99, 0, 40);
        x.part(5, 2, 0, 11, 99, 0, 44);
        x.machine();
        x.clock(3);
        Checks.order(x, 0, 3, "must 2 within 4 if machine < 9; force 700 - bent; look lamp");
        Checks.order(x, 1, 3, "ground; look vent");
        x.stamp(0, 1, 2, 2);
        x.mark(0);
        x.machine();
        x.push(0, 70, 30);
        x.turn(0, 2, 0, 4);
        x.turn(1, 3, 1, -5);
        x.push(1, 47, 0);
        x.fly(1, 33);
        x.wears(1, 10);
        x.clock(8);
        x.mark(1);
        Checks.order(x, 2, 9, "ground");
        x.clock(NOW);
        x.change(2, 2, -4, 0, 9);
        x.change(1, 0, 0, 50, 5);
        x.stamp(1, 1, 2, 4);
        x.stamp(1, 3, 2, 4);
        x.see(1, 3, 5, true);
        x.see(0, 1, 1, false);
        x.paper(0, 2, 0);
        x.paper(-1, 4, 1);
        x.paper(1, 4, 2);
        for (int paper = 0; paper < 3; paper++) x.read(5, paper, 5 + paper);
        x.read(6, 0, 9);
        Checks.type(x, "force 650 if day > 10");
        return x;
    }

    private static List<Integer> told(NearlyShut x) {
        List<Integer> all = toldNow(x);
        for (int k = 3; k >= 0; k--) {
            int back = x.back(k);
            all.add(back);
            if (back != -1) machinesTold(x, all);
        }
        return all;
    }

    /** All that can be asked, then what can be asked only by changing something. */
    private static List<Integer> toldNow(NearlyShut x) {
        List<Integer> all = new ArrayList<>();
        machinesTold(x, all);
        for (int stamp = -1; stamp < 4; stamp++) all.add(x.sure(stamp));
        all.add(x.fewest());
        for (int man = 4; man < 8; man++) for (int paper = 0; paper < 4; paper++) all.add(x.knew(man, paper));
        for (int day = 0; day <= NOW; day++) all.add(x.warned(0, day) << 16 | x.warned(1, day));
        all.add(x.order(0, x.count(0)));
        all.add(x.bound(0, 2));
        for (int machine = 0; machine < 2; machine++) all.add(x.takes(machine, 1, true) ? 1 : 0);
        for (int part = 0; part < 7; part++) all.add(x.wears(part, 0));
        return all;
    }

    private static void machinesTold(NearlyShut x, List<Integer> all) {
        for (int what = 0; what < 9; what++) all.add(x.count(what));
        for (int machine = 0; machine < 2; machine++) {
            for (int part = 0; part < 7; part++) {
                for (int what = 0; what < 4; what++) all.add(x.state(machine, part, what));
            }
            for (int what = 0; what < 4; what++) all.add(x.bound(machine, what));
            all.add(x.fly(machine, 0));
        }
        all.add(x.cheapest(0, 1, 2, 1, 30, 1));
    }

    private static Object call(NearlyShut x, String name, Object... args) throws ReflectiveOperationException {
        for (Method m : NearlyShut.class.getDeclaredMethods()) {
            if (m.getName().equals(name) && m.getParameterCount() == args.length) {
                try {
                    return m.invoke(x, args);
                } catch (InvocationTargetException e) {
                    return e.getCause();
                }
            }
        }
        return "no method " + name;
    }

    private static void refused(String name, Object no, Object... args) throws ReflectiveOperationException {
        NearlyShut x = rich();
        String what = name + Arrays.toString(args);
        Object got = call(x, name, args);
        c.due(what + " answered " + got + " and not " + no, no.equals(got), true);
        c.due(what + " changed nothing", told(x).equals(told(rich())), true);
    }

    private static void taken(String name, boolean asksOnly, Object no, Object... args) throws ReflectiveOperationException {
        NearlyShut x = rich();
        String what = name + Arrays.toString(args);
        Object got = call(x, name, args);
        c.due(what + " answered " + got, no.getClass().isInstance(got) && !no.equals(got), true);
        if (asksOnly) c.due(what + " only asks", told(x).equals(told(rich())), true);
    }

    /** The argument at a place may be from least to most, when the others are as here. */
    private static void edges(String name, boolean asksOnly, Object no, int place, int least, int most, Object... args)
        throws ReflectiveOperationException {
        Object[] with = args.clone();
        for (int good : new int[] {least, least + (most - least) / 2, most}) {
            with[place] = good;
            taken(name, asksOnly, no, with);
        }
        for (int bad : new int[] {least - 1, most + 1, MIN, MAX, MIN + least, MAX - 1}) {
            with[place] = bad;
            refused(name, no, with);
        }
    }

    private static void changes(String name, Object no, int[][] ranges, Object... args) throws ReflectiveOperationException {
        for (int i = 0; i < ranges.length; i++) edges(name, false, no, i, ranges[i][0], ranges[i][1], args);
    }

    private static void asks(String name, Object no, int[][] ranges, Object... args) throws ReflectiveOperationException {
        for (int i = 0; i < ranges.length; i++) edges(name, true, no, i, ranges[i][0], ranges[i][1], args);
    }

    private static void door() throws ReflectiveOperationException {
        changes("clock", false, new int[][] {{NOW, 9999}}, NOW);
        c.sentence("its number; NONE: there are 24, or something is not as told.");
        changes("part", -1, new int[][] {{1, 5}, {0, 2}, {0, 99}, {11, 99}, {0, 999}, {0, 999}, {0, 999}},
            1, 2, 5, 55, 50, 50, 50);
        c.sentence("what it was; -1000, and nothing happens, for others.");
        changes("turn", -1000, new int[][] {{0, 1}, {0, 5}, {0, 1}, {0, 99}}, 0, 2, 0, 7);
        changes("turn", -1000, new int[][] {{0, 1}, {0, 5}, {0, 1}, {-99, 99}}, 0, 2, 1, 7);
        c.sentence("how much it was BENT; NONE, and nothing happens, for others.");
        changes("anew", -1, new int[][] {{0, 1}, {1, 1}}, 0, 1);
        for (int part : new int[] {0, 2, 3, 4, 5, 6}) refused("anew", -1, 0, part);
        c.sentence("where the handle went to; NONE, and nothing happens, for others (no PARTS, too).");
        changes("push", -1, new int[][] {{0, 1}, {0, 999}, {0, 999}}, 0, 30, 30);
        c.sentence("RELEASED: true; false without it.");
        changes("release", false, new int[][] {{0, 1}}, 0);
        c.sentence("-1000 without it, or for another what.");
        asks("state", -1000, new int[][] {{0, 1}, {0, 5}, {0, 4}}, 0, 2, 0);
        c.sentence("2: 1 if UNLIKE by that; 0 if not; NONE without these.");
        for (int what = 0; what < 3; what++) asks("judged", -1, new int[][] {{0, 1}, {0, 2}, {0, 15}}, 0, what, 3);
    }

    private static void trials() throws ReflectiveOperationException {
        c.sentence("TRIED: how many pairs are UNLIKE (k NONE), or the k-th as 16 * WEAR of a + WEAR of b; NONE without these.");
        // with b 5, the last, a may be 0 to 4; with a 0, the first, b may be 1 to 5
        asks("tried", -1, new int[][] {{0, 1}, {0, 4}}, 0, 0, 5, 3, 30, 0, -1);
        edges("tried", true, -1, 2, 1, 5, 0, 0, 1, 3, 30, 0, -1);
        edges("tried", true, -1, 3, 0, 15, 0, 0, 1, 3, 30, 0, -1);
        edges("tried", true, -1, 4, 0, 999, 0, 0, 1, 3, 30, 0, -1);
        edges("tried", true, -1, 5, 0, 15, 0, 0, 1, 3, 30, 0, -1);
        // machine 0 is bent, so that its hook is never over: all 16 pairs
        edges("tried", true, -1, 6, -1, 15, 0, 0, 5, 3, 30, 0, 0);
        c.sentence("A CHANGE: its number; NONE: there are 8, or something is not as told.");
        changes("change", -1, new int[][] {{0, 5}, {0, 99}, {-99, 99}, {0, 999}, {0, 999}}, 2, 3, 3, 3, 3);
        c.sentence("CHEAPEST: the set; -2: none; NONE without these.");
        asks("cheapest", -1, new int[][] {{0, 1}, {0, 4}}, 1, 0, 5, 3, 30, 1);
        edges("cheapest", true, -1, 2, 1, 5, 1, 0, 1, 3, 30, 1);
        edges("cheapest", true, -1, 3, 0, 15, 1, 0, 1, 3, 30, 1);
        edges("cheapest", true, -1, 4, 0, 999, 1, 0, 1, 3, 30, 1);
        edges("cheapest", true, -1, 5, 0, 15, 1, 0, 1, 3, 30, 1);
        c.sentence("GOES (heights 0 to 400): the height; -2: not by 400; NONE without these.");
        asks("goes", -1, new int[][] {{0, 1}, {1, 99}, {1, 999}}, 1, 1, 1);
        c.sentence("1: wires that go. NONE without these.");
        for (int what = 0; what < 2; what++) {
            asks("floor", -1, new int[][] {{0, 400}, {1, 99}, {0, 99999}, {0, 99}, {0, 400}, {0, 40}, {0, 1}},
                200, 50, 1000, 5, 5, 20, what);
        }
    }

    private static void orders() throws ReflectiveOperationException {
        c.sentence("n; NONE, and nothing happens, if it has not so many, or n is below 0.");
        changes("end", -1, new int[][] {{0, 21}}, 21);
        c.sentence("-2 - its FAULT; NONE, and nothing happens: there are 12, or something is not as told.");
        changes("order", -1, new int[][] {{0, 2}, {NOW, 9999}}, 0, NOW);
        c.sentence("whether that changed; false without these (no bulletin, too).");
        changes("takes", false, new int[][] {{0, 1}, {1, 1}}, 0, 1, true);
        refused("takes", false, 0, 1, false);
        refused("takes", false, 0, 0, true);
        refused("takes", false, 0, 2, true);
        for (int order : new int[] {-1, 3, 11, 12, 33}) {
            refused("takes", false, 0, order, true);
            refused("takes", false, 0, order, false);
        }
        c.sentence("4: 1 if GROUNDED, else 0. NONE without it, or for another what.");
        asks("bound", -1, new int[][] {{0, 1}, {0, 4}}, 0, 0);
    }

    private static void stampsAndPapers() throws ReflectiveOperationException {
        c.sentence("A STAMP: its number; NONE: there are 200, or something is not as told.");
        changes("stamp", -1, new int[][] {{0, 1}, {0, 9}, {0, 15}, {0, NOW}}, 0, 3, 3, 3);
        c.sentence("What was SEEN: how many there are; NONE: 100, or something is not as told.");
        changes("see", -1, new int[][] {{0, 1}, {0, 9}, {0, NOW}}, 0, 3, 3, true);
        changes("see", -1, new int[][] {{0, 1}, {0, 9}, {0, NOW}}, 0, 3, 3, false);
        taken("fewest", true, -1);
        c.sentence("0 neither; -2: no set CAN BE; NONE without it.");
        asks("sure", -1, new int[][] {{0, 2}}, 0);
        c.sentence("A PAPER: its number; NONE: there are 30, or something is not as told.");
        changes("paper", -1, new int[][] {{-1, 1}, {0, NOW}, {0, 7}}, 0, 3, 0);
        c.sentence("A MAN reads a PAPER: true; false, and nothing happens, for others");
        changes("read", false, new int[][] {{0, 15}, {0, 2}, {4, NOW}}, 5, 1, 6);
        changes("read", false, new int[][] {{0, 15}, {0, 2}, {2, NOW}}, 5, 0, 6);
        c.sentence("-2: he did not by NOW; NONE without these.");
        asks("knew", -1, new int[][] {{0, 15}, {0, 2}}, 5, 0);
        c.sentence("WARNED: MEN as bits; NONE without these.");
        asks("warned", -1, new int[][] {{0, 1}, {0, 9999}}, 0, 5);
    }

    private static void flightsAndMarks() throws ReflectiveOperationException {
        c.sentence("what was told (0 at first); NONE, and nothing happens, for others.");
        changes("wears", -1, new int[][] {{0, 5}, {0, 9999}}, 2, 5);
        c.sentence("how many it has had; NONE, and nothing happens, for others.");
        changes("fly", -1, new int[][] {{0, 1}, {0, 9999}}, 0, 5);
        c.sentence("ODDS that there is one in n FLIGHTS, in a million; NONE without these.");
        asks("odds", -1, new int[][] {{0, 1000000}, {0, 9999}}, 5, 5);
        c.sentence("FIRST (p 0 to 1000000): the year; -2: not by 99; NONE without these.");
        asks("first", -1, new int[][] {{0, 1000000}, {1, 9999}, {0, 1000000}}, 5, 5, 5);
        c.sentence("A MARK is made: NOW; NONE without it.");
        changes("mark", -1, new int[][] {{0, 3}}, 0);
        c.sentence("NOW; NONE, and nothing happens, if it was never made, or without it.");
        changes("back", -1, new int[][] {{0, 1}}, 0);
        for (int k = 2; k < 5; k++) refused("back", -1, k);
        c.sentence("8: bytes of the TAPE. NONE for others.");
        asks("count", -1, new int[][] {{0, 8}}, 0);
    }

    /** One more than there can be is refused, and what is there stays. */
    private static void tooMany(String name, Object no, Consumer<NearlyShut> fill, Object... args)
        throws ReflectiveOperationException {
        NearlyShut x = rich();
        fill.accept(x);
        Object got = call(x, name, args);
        c.due(name + " answered " + got + " when there is no room", no.equals(got), true);
        NearlyShut same = rich();
        fill.accept(same);
        c.due("one " + name + " too many changed nothing", toldNow(x).equals(toldNow(same)), true);
    }

    private static void full() throws ReflectiveOperationException {
        c.sentence("its number; NONE: there are 24, or something is not as told.");
        tooMany("part", -1, x -> { for (int i = 6; i < 24; i++) x.part(1, 0, 0, 11, 9, 9, 9); }, 1, 0, 0, 11, 9, 9, 9);
        c.sentence("A MACHINE: its number; NONE: there are 20.");
        tooMany("machine", -1, x -> { for (int i = 2; i < 20; i++) x.machine(); });
        c.sentence("A CHANGE: its number; NONE: there are 8, or something is not as told.");
        tooMany("change", -1, x -> { for (int i = 2; i < 8; i++) x.change(0, 0, 0, 0, 999); }, 2, 9, -9, 9, 0);
        c.sentence("how many it has; NONE, and none comes, if it would have more than 400.");
        tooMany("feed", -1, x -> { for (int i = 0; i < 18; i++) x.feed(0, 0, 0, 0, 0); }, 7, 7, 7, 7, 7);
        c.sentence("-2 - its FAULT; NONE, and nothing happens: there are 12, or something is not as told.");
        tooMany("order", -1, x -> {
            for (int i = 3; i < 12; i++) Checks.order(x, 2, NOW, "ground");
            x.feed(0x67726f75, 0x6e642020, 0x20202020, 0x20202020, 0x20202020);
        }, 0, NOW);
        c.sentence("A STAMP: its number; NONE: there are 200, or something is not as told.");
        tooMany("stamp", -1, x -> { for (int i = 3; i < 200; i++) x.stamp(0, 0, 3, 3); }, 0, 2, 7, 7);
        c.sentence("What was SEEN: how many there are; NONE: 100, or something is not as told.");
        tooMany("see", -1, x -> { for (int i = 2; i < 100; i++) x.see(0, 0, 3, false); }, 1, 1, 9, false);
        c.sentence("A PAPER: its number; NONE: there are 30, or something is not as told.");
        tooMany("paper", -1, x -> { for (int i = 3; i < 30; i++) x.paper(-1, 3, 0); }, 0, 3, 0);
    }

    /** A new object has nothing that these could be of. */
    private static void withoutAnything() throws ReflectiveOperationException {
        c.sentence("DAY 0; no PARTS, no MACHINES.");
        Object[][] calls = {{"turn", -1000, 0, 0, 0, 0}, {"anew", -1, 0, 0}, {"push", -1, 0, 0, 0}, {"release", false, 0},
            {"state", -1000, 0, 0, 0}, {"judged", -1, 0, 0, 0}, {"tried", -1, 0, 0, 1, 0, 0, 0, -1}, {"change", -1, 0, 0, 0, 0, 0},
            {"cheapest", -1, 0, 0, 1, 0, 0, 0}, {"goes", -1, 0, 1, 1}, {"end", -1, 1}, {"takes", false, 0, 0, true},
            {"bound", -1, 0, 0}, {"stamp", -1, 0, 0, 0, 0}, {"see", -1, 0, 0, 0, true}, {"sure", -1, 0}, {"paper", -1, 0, 0, 0},
            {"paper", -1, -1, 0, 1}, {"read", false, 0, 0, 0}, {"knew", -1, 0, 0}, {"warned", -1, 0, 0}, {"wears", -1, 0, 0},
            {"fly", -1, 0, 0}, {"back", -1, 0}, {"fewest", 0}, {"clock", true, 0}, {"end", 0, 0}, {"order", -3, 0, 0}};
        for (Object[] call : calls) {
            Object got = call(new NearlyShut(), (String) call[0], Arrays.copyOfRange(call, 2, call.length));
            c.due("new: " + Arrays.toString(call) + " answered " + got, call[1].equals(got), true);
        }
        for (int what = 0; what <= 8; what++) c.due("new: count " + what, new NearlyShut().count(what), 0);
    }
}
