/** Part I of the document, sentence by sentence: days, parts, machines, pushes, over, shut, looks. */
public final class DoorEdgesTest {
    private static final Checks c = new Checks();
    private static final int HANDLE = 0;
    private static final int ROD = 1;
    private static final int HOOK = 2;
    private static final int VENT = 3;
    private static final int LAMP = 4;
    private static final int WINDOW = 5;

    public static void main(String[] args) {
        calls();
        days();
        handle();
        drivers();
        numbersOfAPart();
        travelAndForce();
        whats();
        partsAndMachines();
        atFirst();
        partsToldLater();
        farthest();
        whatHolds();
        weakRods();
        asked();
        share();
        place();
        bends();
        bentAtMost();
        behindTheWholePush();
        nothingCanMove();
        released();
        over();
        windows();
        shut();
        looks();
        unlike();
        anew();
        c.end("DoorEdgesTest");
    }

    /** A handle that goes to 999, and a machine. */
    private static NearlyShut handled() {
        NearlyShut x = new NearlyShut();
        x.part(HANDLE, -1, 0, 11, 999, 0, 0);
        x.machine();
        return x;
    }

    private static int placeBehind(NearlyShut x, int part, int travel) {
        x.push(0, travel, 0);
        return x.state(0, part, 0);
    }

    private static void calls() {
        c.sentence("An object is used for at most 512 calls after it has been made; what later calls answer is free.");
        NearlyShut x = new NearlyShut();
        for (int day = 1; day < 512; day++) x.clock(day);
        c.due("the 512th call", x.count(0), 511);
        for (int i = 0; i < 2000; i++) x.machine();
    }

    private static void days() {
        c.sentence("DAYS 0 to 9999; NOW (0 at first).");
        NearlyShut x = new NearlyShut();
        c.due("NOW at first", x.count(0), 0);
        c.due("day -1", x.clock(-1), false);
        c.due("day 10000", x.clock(10000), false);
        c.due("NOW stays", x.count(0), 0);
        c.due("day 9999", x.clock(9999), true);
        c.due("NOW", x.count(0), 9999);
        c.sentence("NOW is a DAY, its own or a later one: true; false, and nothing happens, for others.");
        c.due("its own, the last", x.clock(9999), true);
        c.due("one behind the last", x.clock(10000), false);
        c.due("one ahead", x.clock(9998), false);
        c.due("the first", x.clock(0), false);
        c.due("NOW still", x.count(0), 9999);
        NearlyShut y = new NearlyShut();
        c.due("its own, the first", y.clock(0), true);
        c.due("the next", y.clock(1), true);
        c.due("back to the first", y.clock(0), false);
        c.due("NOW is 1", y.count(0), 1);
    }

    private static void handle() {
        c.sentence("kind 0 handle (PART 0 alone, it has no driver)");
        NearlyShut x = new NearlyShut();
        for (int kind = 1; kind <= 5; kind++) {
            for (int driver = -1; driver <= 1; driver++) {
                c.due("PART 0 of kind " + kind + " by " + driver, x.part(kind, driver, 0, 11, 9, 9, 9), -1);
            }
        }
        for (int driver : new int[] {-2, 0, 1, 23, 24}) {
            c.due("a handle by " + driver, x.part(HANDLE, driver, 0, 11, 9, 9, 9), -1);
        }
        c.due("PARTS", x.count(1), 0);
        c.due("a handle", x.part(HANDLE, -1, 0, 11, 9, 9, 9), 0);
        c.due("a second", x.part(HANDLE, -1, 0, 11, 9, 9, 9), -1);
        c.due("a second, by the first", x.part(HANDLE, 0, 0, 11, 9, 9, 9), -1);
    }

    private static void drivers() {
        c.sentence("a driver (a PART told ahead, no vent, lamp or window)");
        for (int driver = HANDLE; driver <= WINDOW; driver++) {
            for (int kind = HANDLE; kind <= WINDOW; kind++) {
                NearlyShut x = new NearlyShut();
                // PART k is of kind k, so each kind is there as a driver
                for (int k = HANDLE; k <= WINDOW; k++) x.part(k, k == HANDLE ? -1 : k == WINDOW ? HOOK : 0, 0, 11, 9, 9, 9);
                boolean can = kind == WINDOW ? driver == HOOK : kind != HANDLE && driver <= HOOK;
                c.due("kind " + kind + " by kind " + driver, x.part(kind, driver, 0, 11, 9, 9, 9), can ? 6 : -1);
            }
        }
        for (int kind = ROD; kind <= WINDOW; kind++) {
            NearlyShut x = handled();
            x.part(HOOK, 0, 0, 11, 9, 9, 9);
            c.due("kind " + kind + " without a driver", x.part(kind, -1, 0, 11, 9, 9, 9), -1);
            c.due("kind " + kind + " by itself", x.part(kind, 2, 0, 11, 9, 9, 9), -1);
            c.due("kind " + kind + " by one to come", x.part(kind, 3, 0, 11, 9, 9, 9), -1);
            c.due("kind " + kind + " by the last told", x.part(kind, 1, 0, 11, 9, 9, 9), 2);
        }
        c.sentence("5 window (its driver is a hook)");
        NearlyShut x = handled();
        x.part(ROD, 0, 0, 11, 9, 9, 9);
        c.due("by the handle", x.part(WINDOW, 0, 0, 11, 9, 9, 9), -1);
        c.due("by a rod", x.part(WINDOW, 1, 0, 11, 9, 9, 9), -1);
        x.part(HOOK, 1, 0, 11, 9, 9, 9);
        c.due("by a hook", x.part(WINDOW, 2, 0, 11, 9, 9, 9), 3);
        c.sentence("a share (times 1 to 9 by 1 to 9)");
        for (int share = -101; share <= 201; share++) {
            boolean can = share >= 11 && share <= 99 && share % 10 != 0;
            c.due("share " + share, handled().part(ROD, 0, 0, share, 9, 9, 9), can ? 1 : -1);
            c.due("share " + share + " of a handle", new NearlyShut().part(HANDLE, -1, 0, share, 9, 9, 9), can ? 0 : -1);
        }
    }

    /** Each number of a PART at its edges and one beyond, for a handle and for each other kind. */
    private static void numbersOfAPart() {
        String[] words = {"a gap (0 to 99)", "a limit (0 to 999)", "a strength (0 to 999)", "a mark (0 to 999)"};
        for (int number = 0; number < 4; number++) {
            c.sentence(words[number]);
            int most = number == 0 ? 99 : 999;
            for (int n : new int[] {Integer.MIN_VALUE, -most, -1, 0, 1, most - 1, most, most + 1, Integer.MAX_VALUE}) {
                int[] a = {5, 5, 5, 5};
                a[number] = n;
                boolean can = n >= 0 && n <= most;
                c.due("of a handle, " + n, new NearlyShut().part(HANDLE, -1, a[0], 11, a[1], a[2], a[3]), can ? 0 : -1);
                for (int kind = ROD; kind <= WINDOW; kind++) {
                    NearlyShut x = handled();
                    x.part(HOOK, 0, 0, 11, 999, 0, 0);
                    c.due("of kind " + kind + ", " + n, x.part(kind, 1, a[0], 11, a[1], a[2], a[3]), can ? 2 : -1);
                    c.due("PARTS", x.count(1), can ? 3 : 2);
                }
            }
        }
        c.sentence("(share: 10 times what it is times by, and what it is by: 32 is times 3 by 2)");
        for (int times = 1; times <= 9; times++) {
            for (int by = 1; by <= 9; by++) {
                NearlyShut x = handled();
                x.part(VENT, 0, 0, 10 * times + by, 999, 0, 0);
                c.due("times " + times + " by " + by, placeBehind(x, 1, 100), 100 * times / by);
            }
        }
    }

    private static void travelAndForce() {
        c.sentence("A PUSH of a MACHINE by a travel (0 to 999) and a force (0 to 999)");
        NearlyShut x = handled();
        x.part(ROD, 0, 0, 11, 500, 999, 0);
        int[][] good = {{0, 0, 0}, {999, 0, 500}, {999, 998, 500}, {0, 999, 0}, {999, 999, 999}};
        for (int[] g : good) c.due("by " + g[0] + " and " + g[1], x.push(0, g[0], g[1]), g[2]);
        int[][] bad = {{-1, 0}, {1000, 0}, {0, -1}, {0, 1000}, {-1, -1}, {1000, 1000}};
        for (int[] b : bad) c.due("by " + b[0] + " and " + b[1], x.push(0, b[0], b[1]), -1);
        c.due("where it was", x.state(0, 0, 0), 999);
        c.due("as it was bent", x.state(0, 1, 3), 499);
    }

    private static void whats() {
        c.sentence("Of a PART of a MACHINE what 0: PLACE, 1: WEAR, 2: SET, 3: BENT, 4: 1 if OVER, else 0.");
        NearlyShut x = handled();
        x.part(ROD, 0, 0, 11, 500, 0, 490);
        x.turn(0, 1, 0, 7);
        x.turn(0, 1, 1, 10);
        x.push(0, 510, 0);
        int[] first = {-1000, 500, 7, 10, 3, 1, -1000};
        for (int what = -1; what <= 5; what++) c.due("what " + what, x.state(0, 1, what), first[what + 1]);
        x.turn(0, 1, 1, 11);
        c.due("not OVER", x.state(0, 1, 4), 0);
        c.sentence("Of a MACHINE what 0: 1 if SHUT, 1: 1 if it LOOKS so by what is looked at (0 to 15)");
        NearlyShut y = handled();
        y.part(HOOK, 0, 0, 11, 999, 0, 1);
        for (int looked = -2; looked <= 17; looked++) {
            boolean can = looked >= 0 && looked <= 15;
            c.due("SHUT, looked " + looked, y.judged(0, 0, looked), can ? 0 : -1);
            c.due("LOOKS, looked " + looked, y.judged(0, 1, looked), can ? 1 : -1);
            c.due("UNLIKE, looked " + looked, y.judged(0, 2, looked), can ? 1 : -1);
            c.due("what 3, looked " + looked, y.judged(0, 3, looked), -1);
            c.due("what -1, looked " + looked, y.judged(0, -1, looked), -1);
        }
    }

    private static void partsAndMachines() {
        c.sentence("PARTS of the one drawing, 0 to 23");
        NearlyShut x = handled();
        for (int part = 1; part < 24; part++) c.due("PART " + part, x.part(1 + part % 4, 0, 0, 11, 99, 9, 9), part);
        for (int kind = HANDLE; kind <= WINDOW; kind++) c.due("a 25th", x.part(kind, 1, 0, 11, 99, 9, 9), -1);
        c.due("PARTS", x.count(1), 24);
        c.due("the last one", x.state(0, 23, 4), 0);
        c.due("none behind it", x.state(0, 24, 4), -1000);
        c.due("the last one is pushed", placeBehind(x, 23, 60), 60);
        c.sentence("MACHINES 0 to 19");
        for (int machine = 1; machine < 20; machine++) c.due("MACHINE " + machine, x.machine(), machine);
        c.due("a 21st", x.machine(), -1);
        c.due("MACHINES", x.count(2), 20);
        c.due("the last PART of the last", x.turn(19, 23, 0, 99), 0);
        c.due("it alone", x.state(18, 23, 1), 0);
        c.due("it alone, too", x.state(19, 22, 1), 0);
        c.due("it", x.state(19, 23, 1), 99);
        c.due("none behind it", x.turn(20, 0, 0, 1), -1000);
    }

    private static void atFirst() {
        c.sentence("WEAR (0 to 99), SET (-99 to 99), BENT (0 to 9999), all 0 at first, PLACE (0 at first).");
        NearlyShut x = handled();
        x.part(ROD, 0, 0, 11, 9, 0, 0);
        x.push(0, 500, 0);
        x.turn(0, 1, 0, 4);
        x.turn(0, 1, 1, 4);
        x.machine();
        for (int part = 0; part < 2; part++) {
            for (int what = 0; what < 4; what++) c.due("MACHINE 1 at first, what " + what, x.state(1, part, what), 0);
        }
        int[][] edges = {{0, 0}, {0, 99}, {1, -99}, {1, 99}};
        for (int[] e : edges) {
            x.turn(1, 1, e[0], e[1]);
            c.due("turned to " + e[1], x.state(1, 1, 1 + e[0]), e[1]);
            for (int beyond : new int[] {-100, 100, -1000, 1000}) {
                c.due("to " + beyond, x.turn(1, 1, e[0], beyond), -1000);
            }
            c.due("stays " + e[1], x.state(1, 1, 1 + e[0]), e[1]);
        }
        c.due("WEAR below 0", x.turn(1, 1, 0, -1), -1000);
        c.due("SET below 0", x.turn(1, 1, 1, -1), 99);
        c.sentence("Of a PART of a MACHINE WEAR (what 0), SET (1) becomes n: what it was");
        c.due("WEAR was", x.turn(0, 1, 0, 0), 4);
        c.due("SET was", x.turn(0, 1, 1, 0), 4);
        c.due("BENT can't be turned", x.turn(0, 1, 2, 0), -1000);
        c.due("BENT", x.state(0, 1, 3), 491);
        c.due("PLACE stays when it is turned", x.state(0, 1, 0), 9);
    }

    private static void partsToldLater() {
        c.sentence("PARTS told later come to all MACHINES.");
        NearlyShut x = handled();
        for (int i = 1; i < 20; i++) x.machine();
        for (int machine = 0; machine < 20; machine++) x.push(machine, 50, 0);
        x.part(VENT, 0, 0, 11, 99, 0, 0);
        for (int machine = 0; machine < 20; machine++) {
            for (int what = 0; what < 4; what++) c.due("the vent of " + machine, x.state(machine, 1, what), 0);
            c.due("the handle stays", x.state(machine, 0, 0), 50);
            c.due("pushed", x.push(machine, 30, 0), 30);
            c.due("the vent goes", x.state(machine, 1, 0), 30);
        }
    }

    private static void farthest() {
        c.sentence("the handle goes to the greatest h, from 0 to travel");
        NearlyShut x = handled();
        for (int travel : new int[] {0, 1, 2, 500, 998, 999, 3, 0}) {
            c.due("push by " + travel, x.push(0, travel, 0), travel);
            c.due("its PLACE", x.state(0, 0, 0), travel);
        }
        NearlyShut y = new NearlyShut();
        y.part(HANDLE, -1, 99, 19, 500, 999, 0);
        y.machine();
        y.turn(0, 0, 0, 99);
        c.due("short of its limit; gap, share and WEAR of a handle are nothing", y.push(0, 499, 0), 499);
        c.due("to its limit", y.push(0, 500, 0), 500);
        c.due("beyond its limit", y.push(0, 501, 0), 500);
        c.due("a handle never bends", y.push(0, 999, 999), 500);
        c.due("BENT", y.state(0, 0, 3), 0);
    }

    /** By a driver that goes as the handle does, a PART with a limit of 10: where the handle goes to. */
    private static int held(int kind, int strength, int travel, int force) {
        NearlyShut x = handled();
        x.part(HOOK, 0, 0, 11, 999, 0, 0);
        x.part(kind, 1, 0, 11, 10, strength, 0);
        return x.push(0, travel, force);
    }

    private static void whatHolds() {
        c.sentence("with which no PART but rods whose strength is not above the force is ASKED beyond its limit");
        for (int kind = HOOK; kind <= WINDOW; kind++) {
            c.due("kind " + kind + " short of its limit", held(kind, 0, 9, 999), 9);
            c.due("kind " + kind + " at its limit", held(kind, 0, 10, 999), 10);
            c.due("kind " + kind + " beyond it", held(kind, 0, 11, 999), 10);
            c.due("kind " + kind + " far beyond it", held(kind, 999, 999, 0), 10);
        }
        c.due("a rod too strong", held(ROD, 31, 999, 30), 10);
        c.due("a rod as strong as the force", held(ROD, 30, 999, 30), 999);
        c.due("a rod weaker", held(ROD, 29, 999, 30), 999);
        c.due("the weakest by no force", held(ROD, 0, 999, 0), 999);
        c.due("a rod of 1 by no force", held(ROD, 1, 999, 0), 10);
        c.due("the strongest by all force", held(ROD, 999, 999, 999), 999);
        c.due("the strongest by nearly all", held(ROD, 999, 999, 998), 10);
        NearlyShut x = handled();
        x.part(ROD, 0, 0, 11, 20, 50, 0);
        x.part(VENT, 0, 0, 11, 30, 0, 0);
        x.part(HOOK, 1, 0, 21, 38, 0, 0);
        c.due("the least of all that hold", x.push(0, 999, 49), 19);
        c.due("the hook holds it still", x.push(0, 999, 50), 19);
        // a rod never goes beyond its limit, less what it is bent: what it drives is asked no more than that
        for (int bent = 0; bent <= 5; bent += 5) {
            for (int limit = 40; limit <= 60; limit++) {
                NearlyShut y = handled();
                y.part(ROD, 0, 0, 11, 50, 30, 0);
                y.push(0, 50 + bent, 30);
                y.part(HOOK, 1, 0, 11, limit, 0, 0);
                boolean free = limit >= 50 - bent;
                String what = "a hook to " + limit + " by a rod to 50, bent by " + bent;
                c.due(what + ", strong", y.push(0, 999, 29), free ? 50 : limit + bent);
                c.due(what + ", weak", y.push(0, 999, 30), free ? 999 : limit + bent);
            }
        }
    }

    private static void weakRods() {
        c.sentence("A rod that is ASKED beyond its limit bends: BENT grows by what is beyond");
        NearlyShut x = handled();
        x.part(ROD, 0, 0, 11, 20, 50, 0);
        x.machine();
        x.push(0, 20, 50);
        c.due("at its limit", x.state(0, 1, 3), 0);
        x.push(0, 21, 50);
        c.due("one beyond", x.state(0, 1, 3), 1);
        x.push(0, 20, 50);
        c.due("not when it is not beyond", x.state(0, 1, 3), 1);
        x.push(0, 25, 50);
        c.due("grows", x.state(0, 1, 3), 6);
        x.push(0, 999, 49);
        c.due("not by less force", x.state(0, 1, 3), 6);
        c.due("not of another MACHINE", x.state(1, 1, 3), 0);
        c.due("nor the handle", x.state(0, 0, 3), 0);
    }

    private static void asked() {
        c.sentence("what its driver's PLACE is more than gap and WEAR together (0 at least)");
        NearlyShut x = handled();
        x.part(HOOK, 0, 5, 11, 999, 0, 0);
        x.turn(0, 1, 0, 3);
        int[][] near = {{0, 0}, {1, 0}, {7, 0}, {8, 0}, {9, 1}, {10, 2}, {999, 991}};
        for (int[] n : near) c.due("gap 5, WEAR 3, by " + n[0], placeBehind(x, 1, n[0]), n[1]);
        NearlyShut y = handled();
        y.part(HOOK, 0, 99, 91, 999, 0, 0);
        y.turn(0, 1, 0, 99);
        int[][] far = {{0, 0}, {99, 0}, {197, 0}, {198, 0}, {199, 9}, {200, 18}, {309, 999}};
        for (int[] n : far) c.due("gap 99, WEAR 99, by " + n[0], placeBehind(y, 1, n[0]), n[1]);
        c.due("309 and no farther", y.push(0, 999, 999), 309);
        y.part(LAMP, 1, 0, 11, 999, 0, 0);
        y.turn(0, 0, 0, 50);
        c.due("the driver's WEAR is its own", placeBehind(y, 2, 199), 9);
    }

    private static void share() {
        c.sentence("times and by its share, downwards");
        int[][] shares = {{11, 7, 7}, {19, 8, 0}, {19, 9, 1}, {19, 17, 1}, {19, 18, 2}, {19, 999, 111}, {91, 1, 9}, {91, 111, 999},
            {32, 1, 1}, {32, 2, 3}, {32, 3, 4}, {23, 1, 0}, {23, 2, 1}, {23, 4, 2}, {99, 7, 7}, {98, 7, 7}, {98, 8, 9},
            {12, 1, 0}, {12, 999, 499}, {21, 499, 998}};
        for (int[] s : shares) {
            NearlyShut x = handled();
            x.part(VENT, 0, 0, s[0], 999, 0, 0);
            c.due("share " + s[0] + " of " + s[1], placeBehind(x, 1, s[1]), s[2]);
        }
        // a limit of 4 by 3 by 2: 3 ask 4, 4 ask 6; by 2 by 3: 7 ask 4, 8 ask 5
        NearlyShut x = handled();
        x.part(VENT, 0, 0, 32, 4, 0, 0);
        c.due("up to what is 4 downwards", x.push(0, 999, 0), 3);
        NearlyShut y = handled();
        y.part(VENT, 0, 0, 23, 4, 0, 0);
        c.due("7 by 2 by 3 is still 4", y.push(0, 999, 0), 7);
        NearlyShut z = handled();
        z.part(VENT, 0, 2, 19, 0, 0, 0);
        c.due("a limit of 0 by 1 by 9", z.push(0, 999, 0), 10);
        NearlyShut w = handled();
        w.part(ROD, 0, 0, 91, 0, 0, 0);
        w.push(0, 999, 0);
        c.due("the most that can be asked", w.state(0, 1, 3), 8991);
    }

    private static void place() {
        c.sentence("PLACE: ASKED, its limit at most, less BENT, 0 at least (PARTS by numbers).");
        NearlyShut x = handled();
        x.part(ROD, 0, 0, 11, 10, 0, 0);
        int[][] pushes = {{10, 10, 0}, {13, 10, 3}, {13, 7, 6}, {2, 0, 6}, {5, 0, 6}, {6, 0, 6}, {7, 1, 6}, {10, 4, 6}, {11, 4, 7},
            {13, 3, 10}, {999, 0, 999}};
        for (int[] p : pushes) {
            c.due("PLACE by " + p[0], placeBehind(x, 1, p[0]), p[1]);
            c.due("BENT behind " + p[0], x.state(0, 1, 3), p[2]);
        }
        // a chain: each goes by what the one ahead of it went to in the same push
        NearlyShut y = handled();
        for (int part = 1; part < 24; part++) y.part(part % 2 == 0 ? ROD : HOOK, part - 1, 1, 11, 999, 999, 0);
        y.push(0, 100, 0);
        for (int part = 0; part < 24; part++) c.due("PART " + part + " of a chain", y.state(0, part, 0), 100 - part);
        // what a bent rod drives is asked less, so the handle may go farther
        NearlyShut z = handled();
        z.part(ROD, 0, 0, 11, 100, 5, 0);
        z.part(HOOK, 1, 0, 11, 60, 0, 0);
        c.due("the hook's limit", z.push(0, 999, 0), 60);
        z.turn(0, 2, 0, 50);
        z.push(0, 105, 5);
        z.turn(0, 2, 0, 0);
        c.due("a rod bent by 5", z.push(0, 999, 0), 65);
    }

    private static void bends() {
        c.sentence("A rod that is ASKED beyond its limit bends");
        // only rods: what else is asked to its limit and no farther has nothing to bend by
        NearlyShut x = handled();
        x.part(HOOK, 0, 0, 11, 10, 0, 0);
        x.part(VENT, 0, 0, 11, 10, 0, 0);
        x.part(LAMP, 0, 0, 11, 10, 0, 0);
        x.part(WINDOW, 1, 0, 11, 10, 0, 0);
        c.due("held", x.push(0, 999, 999), 10);
        for (int part = 0; part < 5; part++) c.due("BENT of PART " + part, x.state(0, part, 3), 0);
        // two rods in a row: each by what is beyond its own limit
        NearlyShut y = handled();
        y.part(ROD, 0, 0, 11, 10, 7, 0);
        y.part(ROD, 1, 0, 21, 5, 7, 0);
        c.due("both give", y.push(0, 30, 7), 30);
        c.due("the first by 20", y.state(0, 1, 3), 20);
        c.due("the second by 15", y.state(0, 2, 3), 15);
    }

    private static void bentAtMost() {
        c.sentence("behind the whole PUSH (9999 at most)");
        int[][] second = {{111, 9990}, {112, 9999}, {113, 9999}, {999, 9999}};
        for (int[] s : second) {
            NearlyShut x = handled();
            x.part(ROD, 0, 0, 91, 0, 0, 0);
            x.push(0, 999, 0);
            c.due("BENT 8991", x.state(0, 1, 3), 8991);
            x.push(0, s[0], 0);
            c.due("and 9 times " + s[0], x.state(0, 1, 3), s[1]);
            x.push(0, 1, 0);
            c.due("and 9 more", x.state(0, 1, 3), 9999);
            x.push(0, 1, 0);
            c.due("no more", x.state(0, 1, 3), 9999);
            c.due("made anew", x.anew(0, 1), 9999);
        }
    }

    private static void behindTheWholePush() {
        c.sentence("BENT grows by what is beyond, behind the whole PUSH");
        NearlyShut x = handled();
        x.part(ROD, 0, 0, 11, 10, 0, 0);
        x.part(HOOK, 1, 0, 11, 99, 0, 10);
        x.push(0, 20, 0);
        c.due("the rod's PLACE is not yet less", x.state(0, 1, 0), 10);
        c.due("nor the hook's", x.state(0, 2, 0), 10);
        c.due("it is shut by this PUSH", x.judged(0, 0, 0), 1);
        c.due("BENT", x.state(0, 1, 3), 10);
        x.push(0, 20, 0);
        c.due("the next one moves no rod", x.state(0, 1, 0), 0);
        c.due("nor a hook", x.state(0, 2, 0), 0);
    }

    private static void nothingCanMove() {
        c.sentence("(h 0 always can be: nothing is ASKED above 0 but by a handle above 0.)");
        NearlyShut x = handled();
        x.push(0, 300, 0);
        x.part(VENT, 0, 0, 91, 0, 0, 0);
        c.due("a vent that can't move", x.push(0, 999, 999), 0);
        c.due("the handle went back", x.state(0, 0, 0), 0);
        NearlyShut y = new NearlyShut();
        y.part(HANDLE, -1, 0, 11, 0, 0, 0);
        for (int kind = ROD; kind <= LAMP; kind++) y.part(kind, 0, 0, 91, 0, 999, 0);
        y.machine();
        c.due("no limit at all", y.push(0, 999, 0), 0);
        c.due("by all force", y.push(0, 999, 999), 0);
        for (int part = 0; part < 5; part++) c.due("PLACE " + part, y.state(0, part, 0), 0);
        c.due("nothing is bent", y.state(0, 1, 3), 0);
        NearlyShut z = handled();
        z.part(ROD, 0, 0, 91, 0, 0, 0);
        c.due("travel 0", z.push(0, 0, 999), 0);
        c.due("bends nothing", z.state(0, 1, 3), 0);
    }

    private static void released() {
        c.sentence("RELEASED: all PLACES are 0.");
        NearlyShut x = handled();
        for (int part = 1; part < 24; part++) x.part(ROD, part - 1, 0, 11, 900, 0, 0);
        x.machine();
        x.push(0, 910, 0);
        x.push(1, 910, 0);
        x.turn(0, 5, 0, 7);
        x.turn(0, 5, 1, -7);
        c.due("release", x.release(0), true);
        for (int part = 0; part < 24; part++) {
            c.due("PLACE of " + part, x.state(0, part, 0), 0);
            c.due("the other's PLACE of " + part, x.state(1, part, 0), part == 0 ? 910 : 900);
        }
        c.due("BENT stays", x.state(0, 1, 3), 10);
        c.due("WEAR stays", x.state(0, 5, 1), 7);
        c.due("SET stays", x.state(0, 5, 2), -7);
        c.due("again", x.release(0), true);
        c.due("the last MACHINE", x.release(1), true);
        for (int part = 0; part < 24; part++) c.due("PLACE of " + part + " of the last", x.state(1, part, 0), 0);
        NearlyShut y = new NearlyShut();
        c.due("no MACHINE", y.release(0), false);
        y.machine();
        c.due("a MACHINE without PARTS", y.release(0), true);
    }

    private static void over() {
        c.sentence("OVER of a PART: PLACE is not below mark and SET together");
        int[][] cases = {{50, 0, 49, 0}, {50, 0, 50, 1}, {50, 0, 51, 1}, {50, 1, 50, 0}, {50, 1, 51, 1}, {50, -1, 48, 0},
            {50, -1, 49, 1}, {0, 0, 0, 1}, {0, 1, 0, 0}, {0, 1, 1, 1}, {0, -1, 0, 1}, {0, -99, 0, 1}, {98, -99, 0, 1},
            {99, -99, 0, 1}, {100, -99, 0, 0}, {100, -99, 1, 1}, {999, 0, 999, 1}, {999, 0, 998, 0}, {999, 1, 999, 0},
            {999, 99, 999, 0}, {900, 99, 998, 0}, {900, 99, 999, 1}, {999, -99, 899, 0}, {999, -99, 900, 1}};
        for (int[] n : cases) {
            for (int kind = HANDLE; kind <= LAMP; kind++) {
                NearlyShut x = new NearlyShut();
                x.part(HANDLE, -1, 0, 11, 999, 0, kind == HANDLE ? n[0] : 0);
                if (kind != HANDLE) x.part(kind, 0, 0, 11, 999, 0, n[0]);
                x.machine();
                int part = kind == HANDLE ? 0 : 1;
                x.turn(0, part, 1, n[1]);
                x.push(0, n[2], 0);
                c.due("kind " + kind + ", mark " + n[0] + ", SET " + n[1] + ", PLACE " + n[2], x.state(0, part, 4), n[3]);
            }
        }
    }

    private static void windows() {
        c.sentence("of a window: the PLACE of its hook is not below these of the window");
        NearlyShut x = handled();
        x.part(HOOK, 0, 0, 11, 999, 0, 900);
        x.part(WINDOW, 1, 90, 19, 999, 0, 100);
        int[][] cases = {{99, 0, 0}, {100, 0, 1}, {101, 0, 1}, {100, 1, 0}, {101, 1, 1}, {98, -1, 0}, {99, -1, 1}, {1, -99, 1}, {0, -99, 0}};
        for (int[] n : cases) {
            x.turn(0, 2, 1, n[1]);
            x.push(0, n[0], 0);
            c.due("hook at " + n[0] + ", SET of the window " + n[1], x.state(0, 2, 4), n[2]);
            c.due("it LOOKS so by windows", x.judged(0, 1, 8), n[2]);
        }
        // the window's own PLACE and the hook's mark and SET are nothing to it
        x.turn(0, 2, 1, 0);
        x.turn(0, 1, 1, 99);
        x.push(0, 100, 0);
        c.due("its own PLACE", x.state(0, 2, 0), 1);
        c.due("OVER all the same", x.state(0, 2, 4), 1);
        c.due("the hook is not", x.state(0, 1, 4), 0);
        // a window that goes farther than its hook does
        NearlyShut y = handled();
        y.part(HOOK, 0, 0, 11, 999, 0, 0);
        y.part(WINDOW, 1, 0, 91, 999, 0, 50);
        y.push(0, 49, 0);
        c.due("its own PLACE is 441", y.state(0, 2, 0), 441);
        c.due("its hook is not at 50", y.state(0, 2, 4), 0);
    }

    private static void shut() {
        c.sentence("SHUT: all hooks are OVER (a drawing without hooks never is).");
        NearlyShut x = new NearlyShut();
        x.machine();
        c.due("no PARTS", x.judged(0, 0, 0), 0);
        x.part(HANDLE, -1, 0, 11, 999, 0, 0);
        x.part(ROD, 0, 0, 11, 999, 0, 0);
        x.part(VENT, 0, 0, 11, 999, 0, 0);
        x.part(LAMP, 0, 0, 11, 999, 0, 0);
        c.due("no hooks, all else OVER", x.judged(0, 0, 0), 0);
        x.part(HOOK, 1, 0, 11, 999, 0, 0);
        c.due("one hook OVER", x.judged(0, 0, 0), 1);
        x.turn(0, 0, 1, 99);
        x.turn(0, 1, 1, 99);
        x.turn(0, 2, 1, 99);
        x.turn(0, 3, 1, 99);
        c.due("hooks alone count", x.judged(0, 0, 15), 1);
        x.part(HOOK, 4, 0, 11, 999, 0, 10);
        c.due("one of two", x.judged(0, 0, 0), 0);
        x.push(0, 9, 0);
        c.due("nearly shut", x.judged(0, 0, 0), 0);
        x.push(0, 10, 0);
        c.due("both", x.judged(0, 0, 0), 1);
        x.turn(0, 4, 1, 11);
        c.due("the other of two", x.judged(0, 0, 0), 0);
        NearlyShut y = handled();
        for (int part = 1; part < 24; part++) y.part(HOOK, 0, 0, 11, 999, 0, 0);
        c.due("23 hooks", y.judged(0, 0, 0), 1);
        for (int part = 1; part < 24; part++) {
            y.turn(0, part, 1, 1);
            c.due("all but hook " + part, y.judged(0, 0, 0), 0);
            y.turn(0, part, 1, 0);
        }
    }

    /** At PLACE 0 with a mark of 0 a PART is OVER with SET 0 and not with SET 1. */
    private static void looks() {
        c.sentence("LOOKS by what is looked at (bits: 1 the handle, 2 vents, 4 lamps, 8 windows): all PARTS of these kinds are OVER.");
        int[] shown = {0, 3, 4, 5};
        NearlyShut x = handled();
        x.part(ROD, 0, 0, 11, 9, 0, 9);
        x.part(HOOK, 0, 0, 11, 9, 0, 9);
        x.part(VENT, 0, 0, 11, 9, 0, 0);
        x.part(LAMP, 0, 0, 11, 9, 0, 0);
        x.part(WINDOW, 2, 0, 11, 9, 0, 0);
        for (int over = 0; over < 16; over++) {
            for (int bit = 0; bit < 4; bit++) x.turn(0, shown[bit], 1, over >> bit & 1 ^ 1);
            for (int looked = 0; looked < 16; looked++) {
                c.due("looked " + looked + ", OVER " + over, x.judged(0, 1, looked), (looked & ~over) == 0 ? 1 : 0);
            }
        }
        for (int bit = 1; bit < 4; bit++) {
            NearlyShut y = handled();
            y.part(HOOK, 0, 0, 11, 9, 0, 9);
            int kind = VENT + bit - 1;
            int driver = kind == WINDOW ? 1 : 0;
            c.due("none of the kind: it LOOKS so", y.judged(0, 1, 1 << bit), 1);
            y.part(kind, driver, 0, 11, 9, 0, 0);
            y.part(kind, driver, 0, 11, 9, 0, 1);
            c.due("one of two of a kind", y.judged(0, 1, 1 << bit), 0);
            y.turn(0, 3, 1, -1);
            c.due("both of a kind", y.judged(0, 1, 1 << bit), 1);
            y.turn(0, 2, 1, 1);
            c.due("the other of a kind", y.judged(0, 1, 1 << bit), 0);
        }
        NearlyShut z = new NearlyShut();
        z.machine();
        for (int looked = 0; looked < 16; looked++) c.due("no PARTS", z.judged(0, 1, looked), 1);
    }

    private static void unlike() {
        c.sentence("UNLIKE: it LOOKS so, and is not SHUT.");
        for (int lamp = 0; lamp < 2; lamp++) {
            for (int hook = 0; hook < 2; hook++) {
                NearlyShut x = handled();
                x.part(HOOK, 0, 0, 11, 9, 0, 1 - hook);
                x.part(LAMP, 0, 0, 11, 9, 0, 1 - lamp);
                c.due("SHUT", x.judged(0, 0, 4), hook);
                c.due("LOOKS", x.judged(0, 1, 4), lamp);
                c.due("UNLIKE by the lamp", x.judged(0, 2, 4), lamp == 1 && hook == 0 ? 1 : 0);
                c.due("UNLIKE by nothing", x.judged(0, 2, 0), hook == 0 ? 1 : 0);
            }
        }
        NearlyShut x = handled();
        c.due("without hooks all that LOOKS so is UNLIKE", x.judged(0, 2, 15), 1);
    }

    private static void anew() {
        c.sentence("A rod of a MACHINE is made anew: how much it was BENT");
        NearlyShut x = handled();
        x.part(ROD, 0, 0, 11, 10, 0, 0);
        x.part(ROD, 0, 0, 11, 10, 0, 0);
        x.machine();
        x.push(0, 15, 0);
        x.push(1, 17, 0);
        c.due("5", x.anew(0, 1), 5);
        c.due("it is straight", x.state(0, 1, 3), 0);
        c.due("the other rod is not", x.state(0, 2, 3), 5);
        c.due("the other MACHINE's is not", x.state(1, 1, 3), 7);
        c.due("a straight one", x.anew(0, 1), 0);
        c.due("PLACE by the next PUSH", placeBehind(x, 1, 10), 10);
        c.due("PLACE of the bent one", x.state(0, 2, 0), 5);
    }
}
