/** Promises 1 to 15 and 29 to 35: the door, what is tried, the air, flights, marks. */
public final class DoorTest {
    private static final Checks c = new Checks();

    public static void main(String[] args) {
        aNewObject();
        clock();
        part();
        partsAreTwentyFour();
        machine();
        turn();
        anew();
        push();
        pushAndBentRods();
        release();
        state();
        judged();
        windowsAreJudgedByTheirHook();
        tried();
        change();
        cheapest();
        goes();
        floor();
        wearsAndFly();
        odds();
        first();
        markAndBack();
        count();
        c.end("DoorTest");
    }

    /** A handle, a rod by it, a hook by the rod: all one to one. */
    private static NearlyShut simple() {
        NearlyShut x = new NearlyShut();
        x.part(0, -1, 0, 11, 100, 0, 50);
        x.part(1, 0, 0, 11, 50, 30, 0);
        x.part(2, 1, 0, 11, 90, 10, 45);
        x.machine();
        return x;
    }

    private static void aNewObject() {
        NearlyShut x = new NearlyShut();
        for (int what = 0; what <= 8; what++) c.due("new: count " + what, x.count(what), 0);
        c.due("NONE", NearlyShut.NONE, -1);
        c.due("new: fewest", x.fewest(), 0);
        c.due("new: sure", x.sure(0), -1);
        c.due("new: state", x.state(0, 0, 0), -1000);
        c.due("new: back", x.back(0), -1);
    }

    private static void clock() {
        NearlyShut x = new NearlyShut();
        c.due("clock its own day", x.clock(0), true);
        c.due("clock 7", x.clock(7), true);
        c.due("clock earlier", x.clock(6), false);
        c.due("clock 7 again", x.clock(7), true);
        c.due("clock beyond", x.clock(10000), false);
        c.due("clock below", x.clock(-1), false);
        c.due("NOW", x.count(0), 7);
        c.due("clock last", x.clock(9999), true);
        c.due("NOW last", x.count(0), 9999);
    }

    private static void part() {
        NearlyShut x = new NearlyShut();
        c.due("a handle with a driver", x.part(0, 0, 0, 11, 1, 1, 1), -1);
        c.due("a rod first", x.part(1, -1, 0, 11, 1, 1, 1), -1);
        c.due("handle, edges", x.part(0, -1, 99, 99, 999, 999, 999), 0);
        c.due("a second handle", x.part(0, -1, 0, 11, 1, 1, 1), -1);
        c.due("kind below", x.part(-1, 0, 0, 11, 1, 1, 1), -1);
        c.due("kind 6", x.part(6, 0, 0, 11, 1, 1, 1), -1);
        c.due("no driver", x.part(1, -1, 0, 11, 1, 1, 1), -1);
        c.due("driver not told", x.part(1, 1, 0, 11, 1, 1, 1), -1);
        c.due("gap below", x.part(1, 0, -1, 11, 1, 1, 1), -1);
        c.due("gap 100", x.part(1, 0, 100, 11, 1, 1, 1), -1);
        c.due("share 10", x.part(1, 0, 0, 10, 1, 1, 1), -1);
        c.due("share 9", x.part(1, 0, 0, 9, 1, 1, 1), -1);
        c.due("share 100", x.part(1, 0, 0, 100, 1, 1, 1), -1);
        c.due("share 101", x.part(1, 0, 0, 101, 1, 1, 1), -1);
        c.due("share below", x.part(1, 0, 0, -11, 1, 1, 1), -1);
        c.due("limit 1000", x.part(1, 0, 0, 11, 1000, 1, 1), -1);
        c.due("limit below", x.part(1, 0, 0, 11, -1, 1, 1), -1);
        c.due("strength 1000", x.part(1, 0, 0, 11, 1, 1000, 1), -1);
        c.due("strength below", x.part(1, 0, 0, 11, 1, -1, 1), -1);
        c.due("mark 1000", x.part(1, 0, 0, 11, 1, 1, 1000), -1);
        c.due("mark below", x.part(1, 0, 0, 11, 1, 1, -1), -1);
        c.due("rod", x.part(1, 0, 0, 11, 0, 0, 0), 1);
        c.due("hook by rod", x.part(2, 1, 0, 19, 9, 9, 9), 2);
        c.due("hook by hook", x.part(2, 2, 0, 91, 9, 9, 9), 3);
        c.due("vent", x.part(3, 3, 0, 11, 9, 9, 9), 4);
        c.due("lamp", x.part(4, 0, 0, 11, 9, 9, 9), 5);
        c.due("window by rod", x.part(5, 1, 0, 11, 9, 9, 9), -1);
        c.due("window by handle", x.part(5, 0, 0, 11, 9, 9, 9), -1);
        c.due("window by hook", x.part(5, 2, 0, 11, 9, 9, 9), 6);
        c.due("rod by vent", x.part(1, 4, 0, 11, 9, 9, 9), -1);
        c.due("rod by lamp", x.part(1, 5, 0, 11, 9, 9, 9), -1);
        c.due("rod by window", x.part(1, 6, 0, 11, 9, 9, 9), -1);
        c.due("window by window", x.part(5, 6, 0, 11, 9, 9, 9), -1);
        c.due("lamp by itself", x.part(4, 7, 0, 11, 9, 9, 9), -1);
        c.due("PARTS", x.count(1), 7);
    }

    private static void partsAreTwentyFour() {
        NearlyShut x = new NearlyShut();
        x.machine();
        for (int i = 0; i < 24; i++) c.due("part " + i, x.part(i == 0 ? 0 : 1, i - 1, 1, 11, 100, 1, 0), i);
        c.due("a 25th", x.part(1, 23, 1, 11, 100, 1, 0), -1);
        c.due("a chain of 24", x.push(0, 999, 0), 100);
        c.due("its end", x.state(0, 23, 0), 77);
    }

    private static void machine() {
        NearlyShut x = new NearlyShut();
        for (int i = 0; i < 20; i++) c.due("machine " + i, x.machine(), i);
        c.due("machine 20", x.machine(), -1);
        c.due("MACHINES", x.count(2), 20);
        x.part(0, -1, 0, 11, 100, 0, 50);
        c.due("parts come to all", x.push(19, 999, 0), 100);
        c.due("only to that one", x.state(18, 0, 0), 0);
    }

    private static void turn() {
        NearlyShut x = simple();
        c.due("wear", x.turn(0, 2, 0, 99), 0);
        c.due("wear was", x.turn(0, 2, 0, 0), 99);
        c.due("set", x.turn(0, 2, 1, -99), 0);
        c.due("set was", x.turn(0, 2, 1, 99), -99);
        c.due("wear below", x.turn(0, 2, 0, -1), -1000);
        c.due("wear 100", x.turn(0, 2, 0, 100), -1000);
        c.due("set 100", x.turn(0, 2, 1, 100), -1000);
        c.due("set -100", x.turn(0, 2, 1, -100), -1000);
        c.due("what 2", x.turn(0, 2, 2, 0), -1000);
        c.due("what below", x.turn(0, 2, -1, 0), -1000);
        c.due("part 3", x.turn(0, 3, 0, 0), -1000);
        c.due("part below", x.turn(0, -1, 0, 0), -1000);
        c.due("machine 1", x.turn(1, 0, 0, 0), -1000);
        c.due("machine below", x.turn(-1, 0, 0, 0), -1000);
        c.due("nothing happened", x.state(0, 2, 2), 99);
        c.due("nor to the wear", x.state(0, 2, 1), 0);
    }

    private static void anew() {
        NearlyShut x = simple();
        x.turn(0, 1, 0, 5);
        x.push(0, 999, 30);
        c.due("bent by 45", x.state(0, 1, 3), 45);
        c.due("handle", x.anew(0, 0), -1);
        c.due("hook", x.anew(0, 2), -1);
        c.due("machine 1", x.anew(1, 1), -1);
        c.due("part 3", x.anew(0, 3), -1);
        c.due("part below", x.anew(0, -1), -1);
        c.due("rod", x.anew(0, 1), 45);
        c.due("rod again", x.anew(0, 1), 0);
        c.due("BENT", x.state(0, 1, 3), 0);
        c.due("its wear stays", x.state(0, 1, 1), 5);
    }

    private static void push() {
        NearlyShut x = new NearlyShut();
        x.machine();
        c.due("no parts", x.push(0, 1, 1), -1);
        x = simple();
        c.due("to the rod's limit", x.push(0, 999, 29), 50);
        c.due("rod", x.state(0, 1, 0), 50);
        c.due("hook", x.state(0, 2, 0), 50);
        c.due("not bent", x.state(0, 1, 3), 0);
        c.due("shorter", x.push(0, 20, 0), 20);
        c.due("hook shorter", x.state(0, 2, 0), 20);
        c.due("travel 1000", x.push(0, 1000, 0), -1);
        c.due("travel below", x.push(0, -1, 0), -1);
        c.due("force 1000", x.push(0, 1, 1000), -1);
        c.due("force below", x.push(0, 1, -1), -1);
        c.due("machine 1", x.push(1, 1, 1), -1);
        c.due("nothing happened", x.state(0, 2, 0), 20);
        c.due("travel 0", x.push(0, 0, 999), 0);
        // times 3 by 2, downwards: 7 behind a gap of 2 and wear of 1 is 4, times 3 by 2 is 6
        x = new NearlyShut();
        x.part(0, -1, 0, 11, 100, 0, 0);
        x.part(3, 0, 2, 32, 6, 0, 0);
        x.machine();
        x.turn(0, 1, 0, 1);
        c.due("the vent holds the handle", x.push(0, 999, 999), 7);
        c.due("the vent", x.state(0, 1, 0), 6);
        x.push(0, 6, 0);
        c.due("downwards", x.state(0, 1, 0), 4);
        x.push(0, 2, 0);
        c.due("0 at least", x.state(0, 1, 0), 0);
    }

    private static void pushAndBentRods() {
        NearlyShut x = simple();
        c.due("force as the strength bends", x.push(0, 999, 30), 100);
        c.due("place at the limit", x.state(0, 1, 0), 50);
        c.due("BENT behind the push", x.state(0, 1, 3), 50);
        c.due("the hook of that push", x.state(0, 2, 0), 50);
        c.due("again", x.push(0, 999, 30), 100);
        c.due("no place is left", x.state(0, 1, 0), 0);
        c.due("BENT grows", x.state(0, 1, 3), 100);
        c.due("a weak push", x.push(0, 999, 0), 50);
        c.due("no more", x.state(0, 1, 3), 100);
        // a bent rod lets the handle go farther, for what it drives is asked less
        x = new NearlyShut();
        x.part(0, -1, 0, 11, 999, 0, 0);
        x.part(1, 0, 0, 91, 100, 0, 0);
        x.part(2, 1, 0, 11, 60, 0, 0);
        x.machine();
        c.due("the hook holds it", x.push(0, 999, 0), 6);
        x.part(1, 0, 0, 99, 0, 0, 0);
        c.due("a rod that bends by 6", x.push(0, 999, 0), 6);
        c.due("bent by 6", x.state(0, 3, 3), 6);
        for (int i = 0; i < 20; i++) x.push(0, 6, 0);
        c.due("bent by 126", x.state(0, 3, 3), 126);
        // a rod bent by 30 may be asked 90 until the hook behind it stands at its limit
        x = new NearlyShut();
        x.part(0, -1, 0, 11, 130, 0, 0);
        x.part(1, 0, 0, 11, 100, 5, 0);
        x.machine();
        x.push(0, 999, 5);
        c.due("bent by 30", x.state(0, 1, 3), 30);
        x.part(2, 1, 0, 11, 60, 0, 0);
        c.due("to the hook's limit", x.push(0, 999, 5), 90);
        c.due("the rod", x.state(0, 1, 0), 60);
        x.push(0, 90, 5);
        x.part(1, 0, 0, 11, 999, 0, 0);
        c.due("as before", x.push(0, 999, 0), 90);
        x.turn(0, 2, 0, 10);
        c.due("a worn hook lets it go to the rod's end", x.push(0, 999, 0), 100);
        c.due("or bend it", x.push(0, 999, 5), 130);
        // 9999 at most
        x = new NearlyShut();
        x.part(0, -1, 0, 11, 999, 0, 0);
        x.part(1, 0, 0, 91, 0, 0, 0);
        x.machine();
        x.push(0, 999, 0);
        c.due("BENT 8991", x.state(0, 1, 3), 8991);
        x.push(0, 999, 0);
        c.due("BENT at most", x.state(0, 1, 3), 9999);
    }

    private static void release() {
        NearlyShut x = simple();
        x.push(0, 999, 0);
        c.due("release 1", x.release(1), false);
        c.due("release -1", x.release(-1), false);
        c.due("nothing happened", x.state(0, 2, 0), 50);
        c.due("release", x.release(0), true);
        for (int p = 0; p < 3; p++) c.due("place " + p, x.state(0, p, 0), 0);
        x.machine();
        x.push(0, 999, 0);
        x.push(1, 999, 0);
        x.release(0);
        for (int p = 0; p < 3; p++) c.due("not the other's place " + p, x.state(1, p, 0), 50);
    }

    private static void state() {
        NearlyShut x = simple();
        x.push(0, 45, 0);
        c.due("over at the mark", x.state(0, 2, 4), 1);
        x.turn(0, 2, 1, 1);
        c.due("not over by the set", x.state(0, 2, 4), 0);
        x.turn(0, 2, 1, -1);
        c.due("over", x.state(0, 2, 4), 1);
        c.due("handle not over", x.state(0, 0, 4), 0);
        c.due("rod over", x.state(0, 1, 4), 1);
        c.due("what 5", x.state(0, 0, 5), -1000);
        c.due("what below", x.state(0, 0, -1), -1000);
        c.due("part 3", x.state(0, 3, 0), -1000);
        c.due("part below", x.state(0, -1, 0), -1000);
        c.due("machine 1", x.state(1, 0, 0), -1000);
        c.due("machine below", x.state(-1, 0, 0), -1000);
    }

    private static void judged() {
        NearlyShut x = new NearlyShut();
        x.machine();
        c.due("no hooks: not shut", x.judged(0, 0, 0), 0);
        c.due("nothing to look at: looks so", x.judged(0, 1, 15), 1);
        c.due("unlike", x.judged(0, 2, 15), 1);
        x = simple();
        x.part(3, 0, 0, 11, 99, 0, 40);
        x.part(4, 0, 0, 11, 99, 0, 41);
        c.due("not pushed", x.judged(0, 0, 0), 0);
        x.push(0, 40, 0);
        c.due("handle", x.judged(0, 1, 1), 0);
        c.due("vent", x.judged(0, 1, 2), 1);
        c.due("lamp", x.judged(0, 1, 4), 0);
        c.due("windows: there is none", x.judged(0, 1, 8), 1);
        c.due("vent and lamp", x.judged(0, 1, 6), 0);
        c.due("unlike by the vent", x.judged(0, 2, 2), 1);
        c.due("like by the lamp", x.judged(0, 2, 4), 0);
        x.push(0, 45, 0);
        c.due("shut", x.judged(0, 0, 15), 1);
        c.due("shut, so not unlike", x.judged(0, 2, 6), 0);
        c.due("what 3", x.judged(0, 3, 0), -1);
        c.due("what below", x.judged(0, -1, 0), -1);
        c.due("looked 16", x.judged(0, 1, 16), -1);
        c.due("looked below", x.judged(0, 1, -1), -1);
        c.due("machine 1", x.judged(1, 0, 0), -1);
        x.part(2, 0, 0, 11, 99, 0, 46);
        x.push(0, 45, 0);
        c.due("one hook is not over", x.judged(0, 0, 0), 0);
    }

    private static void windowsAreJudgedByTheirHook() {
        NearlyShut x = simple();
        x.part(5, 2, 50, 11, 10, 0, 48);
        x.push(0, 999, 0);
        c.due("window's own place", x.state(0, 3, 0), 0);
        c.due("window over by its hook at 50", x.state(0, 3, 4), 1);
        x.turn(0, 3, 1, 3);
        c.due("window's own set", x.state(0, 3, 4), 0);
        c.due("windows", x.judged(0, 1, 8), 0);
        x.part(5, 2, 0, 11, 10, 0, 48);
        c.due("a window's limit holds the handle", x.push(0, 999, 0), 10);
    }

    private static void tried() {
        NearlyShut x = simple();
        x.push(0, 999, 30);
        x.anew(0, 1);
        x.turn(0, 1, 0, 77);
        // the rod stands at its limit 50 however it is worn; the hook is over up to a wear of 5
        c.due("count", x.tried(0, 1, 2, 15, 0, 0, -1), 16 * 10);
        c.due("first", x.tried(0, 1, 2, 15, 0, 0, 0), 6);
        c.due("tenth", x.tried(0, 1, 2, 15, 0, 0, 9), 15);
        c.due("eleventh", x.tried(0, 1, 2, 15, 0, 0, 10), 16 + 6);
        c.due("the other way round", x.tried(0, 2, 1, 15, 0, 0, 1), 16 * 6 + 1);
        c.due("last", x.tried(0, 1, 2, 15, 0, 0, 159), 255);
        c.due("beyond", x.tried(0, 1, 2, 15, 0, 0, 160), -1);
        c.due("k below", x.tried(0, 1, 2, 15, 0, 0, -2), -1);
        c.due("handle looked at", x.tried(0, 1, 2, 15, 0, 1, -1), 160);
        x.turn(0, 0, 1, 14);
        // the handle goes to 50 and the rod's wear; to be over it must go to 64
        c.due("handle at 64 or more", x.tried(0, 1, 2, 15, 0, 1, -1), 20);
        c.due("with bending it always is", x.tried(0, 1, 2, 15, 30, 1, -1), 160);
        c.due("nothing happens", x.state(0, 1, 1), 77);
        c.due("nor bends", x.state(0, 1, 3), 0);
        c.due("nor moves", x.state(0, 0, 0), 100);
        c.due("alike parts", x.tried(0, 1, 1, 15, 0, 0, -1), -1);
        c.due("part 3", x.tried(0, 1, 3, 15, 0, 0, -1), -1);
        c.due("part -1", x.tried(0, -1, 2, 15, 0, 0, -1), -1);
        c.due("most 16", x.tried(0, 1, 2, 16, 0, 0, -1), -1);
        c.due("most -1", x.tried(0, 1, 2, -1, 0, 0, -1), -1);
        c.due("force 1000", x.tried(0, 1, 2, 15, 1000, 0, -1), -1);
        c.due("looked 16", x.tried(0, 1, 2, 15, 0, 16, -1), -1);
        c.due("machine 1", x.tried(1, 1, 2, 15, 0, 0, -1), -1);
        x.push(0, 999, 30);
        c.due("from BENT as it is", x.tried(0, 0, 2, 0, 0, 0, -1), 1);
    }

    private static void change() {
        NearlyShut x = simple();
        c.due("edges", x.change(2, 99, 99, 999, 999), 0);
        c.due("lower edges", x.change(0, 0, -99, 0, 0), 1);
        c.due("part 3", x.change(3, 0, 0, 0, 0), -1);
        c.due("part -1", x.change(-1, 0, 0, 0, 0), -1);
        c.due("gap 100", x.change(0, 100, 0, 0, 0), -1);
        c.due("gap -1", x.change(0, -1, 0, 0, 0), -1);
        c.due("mark 100", x.change(0, 0, 100, 0, 0), -1);
        c.due("mark -100", x.change(0, 0, -100, 0, 0), -1);
        c.due("strength 1000", x.change(0, 0, 0, 1000, 0), -1);
        c.due("strength -1", x.change(0, 0, 0, -1, 0), -1);
        c.due("coins 1000", x.change(0, 0, 0, 0, 1000), -1);
        c.due("coins -1", x.change(0, 0, 0, 0, -1), -1);
        for (int i = 2; i < 8; i++) c.due("change " + i, x.change(1, 0, 0, 0, 0), i);
        c.due("a ninth", x.change(1, 0, 0, 0, 0), -1);
        c.due("CHANGES", x.count(3), 8);
        x.push(0, 999, 0);
        c.due("no mark was changed", x.state(0, 2, 4), 1);
    }

    private static void cheapest() {
        NearlyShut x = simple();
        // the hook stands at 50 less its wear; its mark is 45, so wear up to 7 wants 2 less
        c.due("no change is needed", x.cheapest(0, 1, 2, 5, 0, 0), 0);
        c.due("none is there", x.cheapest(0, 1, 2, 7, 0, 0), -2);
        x.change(2, 0, -1, 0, 4);
        c.due("not enough", x.cheapest(0, 1, 2, 7, 0, 0), -2);
        c.due("enough for 6", x.cheapest(0, 1, 2, 6, 0, 0), 1);
        x.change(2, 0, -1, 0, 4);
        c.due("both", x.cheapest(0, 1, 2, 7, 0, 0), 3);
        c.due("the least number", x.cheapest(0, 1, 2, 6, 0, 0), 1);
        x.change(2, 0, -2, 0, 8);
        c.due("for like coins the fewest", x.cheapest(0, 1, 2, 7, 0, 0), 4);
        x.change(2, 0, -2, 0, 7);
        c.due("the fewest coins", x.cheapest(0, 1, 2, 7, 0, 0), 8);
        x.change(2, 0, -3, 0, 7);
        c.due("of like sets the least number", x.cheapest(0, 1, 2, 7, 0, 0), 8);
        c.due("count of bits ahead of the number", x.cheapest(0, 1, 2, 8, 0, 0), 16);
        c.due("alike parts", x.cheapest(0, 2, 2, 7, 0, 0), -1);
        c.due("most 16", x.cheapest(0, 1, 2, 16, 0, 0), -1);
        c.due("looked -1", x.cheapest(0, 1, 2, 7, 0, -1), -1);
        c.due("force -1", x.cheapest(0, 1, 2, 7, -1, 0), -1);
        c.due("machine 1", x.cheapest(1, 1, 2, 7, 0, 0), -1);
        c.due("nothing happens", x.tried(0, 1, 2, 7, 0, 0, -1), 16);
        // less gap, 0 at least is left; strength for a rod that must not bend
        x = new NearlyShut();
        x.part(0, -1, 0, 11, 100, 0, 60);
        x.part(1, 0, 0, 11, 50, 30, 0);
        x.part(2, 1, 5, 11, 90, 10, 50);
        x.machine();
        x.change(2, 99, 0, 0, 9);
        c.due("gap", x.cheapest(0, 0, 1, 1, 0, 0), 1);
        x.change(1, 0, 0, 1, 2);
        c.due("strong, the handle stays short of its mark", x.cheapest(0, 0, 1, 1, 30, 1), 2);
        c.due("not strong enough", x.cheapest(0, 0, 1, 1, 31, 1), 1);
        x = new NearlyShut();
        x.part(0, -1, 0, 11, 50, 0, 0);
        x.part(2, 0, 9, 11, 90, 10, 43);
        x.machine();
        x.change(1, 1, 0, 0, 1);
        c.due("a gap of 8", x.cheapest(0, 0, 1, 0, 0, 0), -2);
        x.change(1, 1, 0, 0, 1);
        c.due("a gap of 7", x.cheapest(0, 0, 1, 0, 0, 0), 3);
    }

    private static void goes() {
        NearlyShut x = new NearlyShut();
        x.part(0, -1, 0, 11, 100, 0, 0);
        x.part(2, 0, 0, 11, 100, 999, 0);
        x.machine();
        c.due("a hook at 0 over a mark of 0", x.goes(0, 1, 3), 334);
        c.due("not by 400", x.goes(0, 1, 2), -2);
        c.due("the last height", x.goes(0, 5, 1), 200);
        x.turn(0, 1, 1, 1);
        c.due("none over", x.goes(0, 1, 1), 0);
        x.turn(0, 1, 1, -1);
        c.due("5 for one above", x.goes(0, 1, 999), 2);
        c.due("1004 bears 1004", x.goes(0, 4, 251), 2);
        c.due("rate 0", x.goes(0, 0, 1), -1);
        c.due("rate 100", x.goes(0, 100, 1), -1);
        c.due("inches 0", x.goes(0, 1, 0), -1);
        c.due("inches 1000", x.goes(0, 1, 1000), -1);
        c.due("machine 1", x.goes(1, 1, 1), -1);
        // 30 above its mark and set: 10 and 5 times 30
        x = new NearlyShut();
        x.part(0, -1, 0, 11, 100, 0, 0);
        x.part(2, 0, 0, 11, 100, 10, 60);
        x.machine();
        x.turn(0, 1, 1, 10);
        x.push(0, 999, 0);
        c.due("160 bears 160", x.goes(0, 1, 1), 161);
        // in like parts, upwards: 3 hooks of 10, 10, 40; at 31 each has 11, the two go, 31 is left to one
        x = new NearlyShut();
        x.part(0, -1, 0, 11, 100, 0, 0);
        x.part(2, 0, 0, 11, 100, 10, 0);
        x.part(2, 0, 0, 11, 100, 10, 0);
        x.part(2, 0, 0, 11, 100, 40, 0);
        x.machine();
        c.due("three hooks", x.goes(0, 1, 1), 41);
        c.due("three hooks, by 31", x.goes(0, 31, 1), 2);
        x = new NearlyShut();
        x.part(0, -1, 0, 11, 100, 0, 0);
        x.part(2, 0, 0, 11, 100, 10, 0);
        x.part(2, 0, 0, 11, 100, 11, 0);
        x.machine();
        c.due("one after another at one height", x.goes(0, 1, 1), 21);
    }

    private static void floor() {
        NearlyShut x = new NearlyShut();
        c.due("no more than it bears", x.floor(10, 10, 1000, 0, 0, 40, 0), 0);
        c.due("one more", x.floor(10, 10, 999, 0, 0, 40, 0), 1);
        c.due("one wire, upwards", x.floor(10, 10, 999, 0, 0, 40, 1), 1);
        c.due("a hundred more", x.floor(10, 10, 900, 0, 0, 40, 1), 1);
        c.due("101 more", x.floor(10, 10, 899, 0, 0, 40, 1), 2);
        c.due("all wires", x.floor(400, 99, 0, 0, 0, 40, 1), 40);
        c.due("holes", x.floor(10, 10, 900, 2, 0, 40, 0), 0);
        c.due("seats", x.floor(10, 10, 900, 2, 1, 40, 0), 1);
        c.due("more seats than it bears", x.floor(0, 1, 19, 0, 1, 3, 0), 1);
        c.due("no wires", x.floor(400, 99, 0, 0, 0, 0, 1), 0);
        c.due("edges", x.floor(400, 99, 99999, 99, 400, 40, 1), 40);
        int[][] bad = {{-1, 1, 0, 0, 0, 0, 0}, {401, 1, 0, 0, 0, 0, 0}, {0, 0, 0, 0, 0, 0, 0}, {0, 100, 0, 0, 0, 0, 0},
            {0, 1, -1, 0, 0, 0, 0}, {0, 1, 100000, 0, 0, 0, 0}, {0, 1, 0, -1, 0, 0, 0}, {0, 1, 0, 100, 0, 0, 0},
            {0, 1, 0, 0, -1, 0, 0}, {0, 1, 0, 0, 401, 0, 0}, {0, 1, 0, 0, 0, -1, 0}, {0, 1, 0, 0, 0, 41, 0},
            {0, 1, 0, 0, 0, 0, -1}, {0, 1, 0, 0, 0, 0, 2}};
        for (int[] b : bad) c.due("floor " + java.util.Arrays.toString(b), x.floor(b[0], b[1], b[2], b[3], b[4], b[5], b[6]), -1);
    }

    private static void wearsAndFly() {
        NearlyShut x = simple();
        c.due("wears", x.wears(1, 10), 0);
        c.due("wears was", x.wears(1, 4), 10);
        c.due("wears 9999", x.wears(2, 9999), 0);
        c.due("wears 10000", x.wears(2, 10000), -1);
        c.due("wears -1", x.wears(2, -1), -1);
        c.due("part 3", x.wears(3, 1), -1);
        c.due("fly 3", x.fly(0, 3), 3);
        c.due("not full", x.state(0, 1, 1), 0);
        c.due("fly 1", x.fly(0, 1), 4);
        c.due("full", x.state(0, 1, 1), 1);
        c.due("fly 9", x.fly(0, 9), 13);
        c.due("two more", x.state(0, 1, 1), 3);
        c.due("fly 0", x.fly(0, 0), 13);
        c.due("fly -1", x.fly(0, -1), -1);
        c.due("fly 10000", x.fly(0, 10000), -1);
        c.due("machine 1", x.fly(1, 1), -1);
        c.due("fly 9999", x.fly(0, 9999), 10012);
        c.due("99 at most", x.state(0, 1, 1), 99);
        c.due("one by 9999", x.state(0, 2, 1), 1);
        c.due("0: never", x.state(0, 0, 1), 0);
        for (int i = 0; i < 98; i++) x.fly(0, 9999);
        c.due("nearly all", x.fly(0, 9999), 999913);
        c.due("999999 at most", x.fly(0, 9999), 999999);
        c.due("no more", x.fly(0, 1), 999999);
        c.due("wears again", x.wears(0, 999), 0);
        c.due("and once more", x.fly(0, 9999), 999999);
        c.due("flights not had wear nothing", x.state(0, 0, 1), 0);
    }

    private static void odds() {
        NearlyShut x = new NearlyShut();
        c.due("never", x.odds(0, 9999), 0);
        c.due("no flights", x.odds(1000000, 0), 0);
        c.due("surely", x.odds(1000000, 1), 1000000);
        c.due("half", x.odds(500000, 1), 500000);
        c.due("half twice", x.odds(500000, 2), 750000);
        c.due("half 7 times: upwards", x.odds(500000, 7), 992188);
        c.due("1 in a million", x.odds(1, 9999), 9999);
        c.due("2 in a million", x.odds(2, 2), 4);
        c.due("all at last", x.odds(900000, 9999), 1000000);
        c.due("u below", x.odds(-1, 1), -1);
        c.due("u beyond", x.odds(1000001, 1), -1);
        c.due("n below", x.odds(1, -1), -1);
        c.due("n beyond", x.odds(1, 10000), -1);
        java.util.Random random = new java.util.Random(5);
        for (int i = 0; i < 400; i++) {
            int u = random.nextInt(1000001) / (1 << random.nextInt(20)), n = random.nextInt(10000);
            c.due("odds " + u + " " + n, x.odds(u, n), 1000000 - Model.noneIn(u, n));
        }
    }

    private static void first() {
        NearlyShut x = new NearlyShut();
        c.due("p 0", x.first(0, 1, 0), 1);
        c.due("never", x.first(0, 9999, 1), -2);
        c.due("half, a flight a year", x.first(500000, 1, 750000), 2);
        c.due("one more", x.first(500000, 1, 750001), 3);
        c.due("the last year", x.first(1, 100, 9900), 99);
        c.due("not by 99", x.first(1, 100, 9901), -2);
        c.due("many flights", x.first(1, 9999, 989901), 99);
        c.due("surely", x.first(1000000, 1, 1000000), 1);
        c.due("u beyond", x.first(1000001, 1, 1), -1);
        c.due("u below", x.first(-1, 1, 1), -1);
        c.due("n 0", x.first(1, 0, 1), -1);
        c.due("n 10000", x.first(1, 10000, 1), -1);
        c.due("p below", x.first(1, 1, -1), -1);
        c.due("p beyond", x.first(1, 1, 1000001), -1);
    }

    private static void markAndBack() {
        NearlyShut x = simple();
        c.due("back, never made", x.back(2), -1);
        c.due("mark 4", x.mark(4), -1);
        c.due("mark -1", x.mark(-1), -1);
        c.due("back 4", x.back(4), -1);
        c.due("back -1", x.back(-1), -1);
        x.clock(5);
        x.turn(0, 1, 0, 3);
        x.turn(0, 1, 1, -7);
        x.push(0, 40, 0);
        x.fly(0, 12);
        x.stamp(0, 4, 0, 5);
        c.due("mark", x.mark(2), 5);
        x.clock(9);
        x.turn(0, 1, 0, 4);
        x.turn(0, 1, 1, 8);
        x.part(1, 0, 0, 11, 10, 0, 0);
        x.push(0, 999, 999);
        x.turn(0, 3, 0, 9);
        x.turn(0, 3, 1, 9);
        x.fly(0, 1);
        c.due("machine", x.machine(), 1);
        c.due("its stamp", x.stamp(1, 0, 0, 7), 1);
        for (int p = 0; p < 4; p++) x.turn(1, p, 0, 9);
        for (int p = 0; p < 4; p++) x.turn(1, p, 1, 9);
        x.push(1, 999, 999);
        x.fly(1, 9);
        c.due("another's", x.stamp(0, 5, 0, 8), 2);
        x.see(1, 0, 7, true);
        x.see(0, 4, 5, true);
        x.paper(1, 7, 0);
        x.read(3, 0, 8);
        x.change(0, 0, 0, 0, 0);
        c.due("warned", x.warned(1, 9), 8);
        Checks.order(x, 0, 9, "ground");
        x.feed(0, 0, 0, 0, 0);
        c.due("back", x.back(2), 5);
        c.due("NOW", x.count(0), 5);
        c.due("wear", x.state(0, 1, 1), 3);
        c.due("set", x.state(0, 1, 2), -7);
        c.due("bent", x.state(0, 1, 3), 0);
        c.due("place", x.state(0, 0, 0), 40);
        c.due("flights", x.fly(0, 0), 12);
        c.due("the part stays", x.count(1), 4);
        for (int what = 0; what < 4; what++) c.due("as at first", x.state(0, 3, what), 0);
        c.due("the machine is gone", x.count(2), 1);
        c.due("with its stamp", x.count(5), 2);
        c.due("and what was seen", x.count(6), 1);
        c.due("the paper stays", x.count(7), 1);
        c.due("the change stays", x.count(3), 1);
        c.due("the order stays", x.count(4), 1);
        c.due("the tape stays", x.count(8), 20);
        c.due("the order is not in force now", x.bound(0, 4), 0);
        c.due("a stamp told since is known still", x.see(0, 5, 5, false), 2);
        c.due("it was done behind that", x.fewest(), 0);
        c.due("did not read it by now", x.knew(3, 0), -2);
        c.due("a machine again", x.machine(), 1);
        for (int p = 0; p < 4; p++) {
            for (int what = 0; what < 4; what++) c.due("it is new", x.state(1, p, what), 0);
        }
        c.due("it never flew", x.fly(1, 0), 0);
        c.due("no paper names it", x.warned(1, 9999), 0);
        x.clock(9);
        c.due("he read it", x.knew(3, 0), 8);
        c.due("in force again", x.bound(0, 4), 1);
        c.due("back once more", x.back(2), 5);
        c.due("the mark is as it was made", x.state(0, 1, 1), 3);
        x.turn(0, 1, 0, 50);
        c.due("and again", x.back(2), 5);
        c.due("still", x.state(0, 1, 1), 3);
        c.due("mark over it", x.mark(2), 5);
    }

    private static void count() {
        NearlyShut x = simple();
        c.due("what -1", x.count(-1), -1);
        c.due("what 9", x.count(9), -1);
        x.clock(3);
        x.change(0, 0, 0, 0, 0);
        Checks.order(x, 2, 3, "ground");
        x.feed(0, 0, 0, 0, 0);
        x.end(17);
        for (int i = 0; i < 6; i++) x.stamp(0, i, i, i % 4);
        for (int i = 0; i < 7; i++) x.see(0, 1, 1, true);
        for (int i = 0; i < 8; i++) x.paper(-1, 0, 0);
        int[] want = {3, 3, 1, 1, 1, 6, 7, 8, 17};
        for (int what = 0; what < 9; what++) c.due("count " + what, x.count(what), want[what]);
    }
}
