/** Parts II and III of the document, sentence by sentence: tried, changes, cheapest, the air and the floor. */
public final class TrialEdgesTest {
    private static final Checks c = new Checks();

    public static void main(String[] args) {
        twoParts();
        pairsInOrder();
        noFartherThanMost();
        kth();
        asItIs();
        byAForce();
        fromBentAsItIs();
        changesOfAPart();
        lessGap();
        moreMark();
        moreStrength();
        fewestCoins();
        severalSets();
        noSetAtAll();
        nothingHappens();
        theAir();
        bearInLikeParts();
        allAtOnce();
        whatTheyBear();
        theFloor();
        wires();
        c.end("TrialEdgesTest");
    }

    /** Handle to 100, a rod to 99 by it, a hook by the rod with a mark of 90: over up to a wear of 9. */
    private static NearlyShut worn() {
        NearlyShut x = new NearlyShut();
        x.part(0, -1, 0, 11, 100, 0, 50);
        x.part(1, 0, 0, 11, 99, 99, 0);
        x.part(2, 1, 0, 11, 99, 5, 90);
        x.machine();
        return x;
    }

    private static void twoParts() {
        c.sentence("TRIED, of a MACHINE as it is (WEAR, SET, BENT), for two unlike PARTS a, b, by a force");
        NearlyShut x = worn();
        for (int a = 0; a < 3; a++) {
            for (int b = 0; b < 3; b++) {
                c.due("tried " + a + ", " + b, x.tried(0, a, b, 0, 0, 0, -1), a == b ? -1 : 0);
                c.due("cheapest " + a + ", " + b, x.cheapest(0, a, b, 0, 0, 0), a == b ? -1 : 0);
            }
        }
    }

    private static void pairsInOrder() {
        c.sentence("WEAR of a from 0 to most, for each of these WEAR of b from 0 to most (most 0 to 15)");
        // a handle that goes to 100 whatever its wear, and a hook that never is over: each pair is unlike
        NearlyShut x = new NearlyShut();
        x.part(0, -1, 0, 11, 100, 0, 0);
        x.part(2, 0, 0, 11, 100, 0, 101);
        x.machine();
        for (int most = 0; most <= 15; most++) {
            int side = most + 1;
            c.due("pairs up to " + most, x.tried(0, 0, 1, most, 0, 0, -1), side * side);
            c.due("the first", x.tried(0, 0, 1, most, 0, 0, 0), 0);
            c.due("the last", x.tried(0, 0, 1, most, 0, 0, side * side - 1), 17 * most);
            c.due("none behind it", x.tried(0, 0, 1, most, 0, 0, side * side), -1);
            c.due("the last of the first row", x.tried(0, 0, 1, most, 0, 0, most), most);
            c.due("the first of the second row", x.tried(0, 0, 1, most, 0, 0, side), most == 0 ? -1 : 16);
        }
        // the rod stands at 99 with a wear of 0 or 1, one less for each more, the hook at its own wear less
        NearlyShut y = worn();
        c.due("1 for a rod's wear of 0, then 1 to 10", y.tried(0, 1, 2, 10, 0, 0, -1), 1 + 55);
        c.due("the first is b's 10", y.tried(0, 1, 2, 10, 0, 0, 0), 10);
        c.due("as many the other way round", y.tried(0, 2, 1, 10, 0, 0, -1), 56);
        c.due("the first the other way round", y.tried(0, 2, 1, 10, 0, 0, 0), 16 + 10);
    }

    /** A hook that stands at 100 less both wears, a's and b's, with a mark. */
    private static NearlyShut bothCount(int mark) {
        NearlyShut x = new NearlyShut();
        x.part(0, -1, 0, 11, 100, 0, 0);
        x.part(1, 0, 0, 11, 999, 999, 0);
        x.part(2, 1, 0, 11, 999, 0, mark);
        x.machine();
        return x;
    }

    private static void noFartherThanMost() {
        c.sentence("WEAR of a from 0 to most, for each of these WEAR of b from 0 to most (most 0 to 15)");
        for (int most = 0; most <= 15; most++) {
            NearlyShut x = bothCount(100 - 2 * most);
            c.due("over with both at " + most, x.tried(0, 1, 2, most, 0, 0, -1), 0);
            c.due("no CHANGE is needed", x.cheapest(0, 1, 2, most, 0, 0), 0);
            NearlyShut y = bothCount(101 - 2 * most);
            c.due("one short with both at " + most, y.tried(0, 1, 2, most, 0, 0, -1), 1);
            c.due("that pair", y.tried(0, 1, 2, most, 0, 0, 0), 17 * most);
            c.due("no set", y.cheapest(0, 1, 2, most, 0, 0), -2);
            y.change(2, 0, 1, 0, 1);
            y.change(2, 0, -1, 0, 2);
            c.due("the set that mends just that pair", y.cheapest(0, 1, 2, most, 0, 0), 2);
        }
    }

    private static void kth() {
        c.sentence("how many pairs are UNLIKE (k NONE), or the k-th as 16 * WEAR of a + WEAR of b; NONE without these.");
        NearlyShut x = worn();
        // wear of the rod w: it stands at 99 for 0 and 1, at 100 - w from there; over up to 90
        int count = 0;
        for (int rod = 0; rod <= 15; rod++) {
            for (int hook = 0; hook <= 15; hook++) {
                if (Math.min(99, 100 - rod) - hook < 90) {
                    c.due("the " + count + "th", x.tried(0, 1, 2, 15, 0, 0, count), 16 * rod + hook);
                    count++;
                }
            }
        }
        c.due("all", x.tried(0, 1, 2, 15, 0, 0, -1), count);
        c.due("one too many", x.tried(0, 1, 2, 15, 0, 0, count), -1);
        for (int k : new int[] {-2, -3, Integer.MIN_VALUE, Integer.MAX_VALUE, 256, 1000}) {
            c.due("k " + k, x.tried(0, 1, 2, 15, 0, 0, k), -1);
        }
        c.due("none is unlike", x.tried(0, 1, 2, 4, 0, 0, -1), 0);
        c.due("no first of none", x.tried(0, 1, 2, 4, 0, 0, 0), -1);
    }

    private static void asItIs() {
        c.sentence("each time RELEASED and pushed by 999, from BENT as it is: those that are UNLIKE by what is looked at");
        NearlyShut x = new NearlyShut();
        x.part(0, -1, 0, 11, 999, 0, 999);
        x.part(2, 0, 0, 11, 999, 0, 995);
        x.part(4, 0, 0, 11, 999, 0, 990);
        x.part(3, 0, 0, 11, 999, 0, 0);
        x.machine();
        // the hook is over up to a wear of 4, the lamp up to 9
        c.due("pushed by 999, not as it was pushed", x.tried(0, 1, 2, 4, 0, 1, -1), 0);
        c.due("by nothing", x.tried(0, 1, 2, 10, 0, 0, -1), 6 * 11);
        c.due("by the handle", x.tried(0, 1, 2, 10, 0, 1, -1), 6 * 11);
        c.due("by the lamp", x.tried(0, 1, 2, 10, 0, 4, -1), 6 * 10);
        x.turn(0, 1, 0, 77);
        x.turn(0, 2, 0, 77);
        c.due("WEAR of a and b as they are is nothing", x.tried(0, 1, 2, 10, 0, 4, -1), 6 * 10);
        c.due("WEAR of another is as it is", x.tried(0, 0, 1, 10, 0, 4, -1), 0);
        x.turn(0, 2, 0, 0);
        x.turn(0, 1, 1, 1);
        c.due("SET of the hook", x.tried(0, 1, 2, 10, 0, 4, -1), 7 * 10);
        x.turn(0, 2, 1, -1);
        c.due("SET of the lamp", x.tried(0, 1, 2, 10, 0, 4, -1), 7 * 11);
        x.turn(0, 0, 1, 1);
        c.due("SET of the handle", x.tried(0, 1, 2, 10, 0, 5, -1), 0);
    }

    private static void byAForce() {
        c.sentence("for two unlike PARTS a, b, by a force");
        // the rod holds the handle at 50 unless it bends; the handle is over at 60
        NearlyShut x = new NearlyShut();
        x.part(0, -1, 0, 11, 100, 0, 60);
        x.part(1, 0, 0, 11, 50, 30, 0);
        x.part(2, 1, 0, 11, 90, 0, 51);
        x.machine();
        c.due("29", x.tried(0, 0, 2, 0, 29, 1, -1), 0);
        c.due("30", x.tried(0, 0, 2, 0, 30, 1, -1), 1);
        c.due("no force", x.tried(0, 0, 2, 0, 0, 1, -1), 0);
        c.due("all force", x.tried(0, 0, 2, 0, 999, 1, -1), 1);
    }

    private static void fromBentAsItIs() {
        c.sentence("pushed by 999, from BENT as it is");
        // each trial bends the rod by 50; a second one from there would leave the hook at 0
        NearlyShut x = new NearlyShut();
        x.part(0, -1, 0, 11, 100, 0, 60);
        x.part(1, 0, 0, 11, 50, 30, 0);
        x.part(2, 1, 0, 11, 90, 0, 35);
        x.machine();
        c.due("not one behind the other", x.tried(0, 0, 2, 15, 30, 1, -1), 0);
        c.due("nothing is bent by it", x.state(0, 1, 3), 0);
        x.push(0, 55, 30);
        c.due("bent by 5: 45 less the hook's wear", x.tried(0, 0, 2, 15, 30, 1, -1), 16 * 5);
        c.due("the first", x.tried(0, 0, 2, 15, 30, 1, 0), 11);
        c.due("BENT stays", x.state(0, 1, 3), 5);
        x.anew(0, 1);
        c.due("made anew", x.tried(0, 0, 2, 15, 30, 1, -1), 0);
    }

    private static void changesOfAPart() {
        c.sentence("CHANGES 0 to 7: of a PART for all MACHINES");
        NearlyShut x = worn();
        x.machine();
        for (int i = 0; i < 8; i++) c.due("CHANGE " + i, x.change(2, 0, i == 7 ? -1 : 0, 0, 0), i);
        c.due("a ninth", x.change(2, 0, -99, 0, 0), -1);
        c.due("CHANGES", x.count(3), 8);
        for (int machine = 0; machine < 2; machine++) {
            c.due("the eighth for MACHINE " + machine, x.cheapest(machine, 0, 2, 10, 0, 0), 128);
        }
        c.due("not enough", x.cheapest(0, 0, 2, 11, 0, 0), -2);
        // of the last PART there can be, by each of the three
        int[][] told = {{1, 0, 0}, {0, -1, 0}, {0, 0, 1}};
        for (int[] t : told) {
            NearlyShut y = new NearlyShut();
            y.part(0, -1, 0, 11, 100, 0, t[2] == 1 ? 60 : 0);
            for (int part = 1; part < 23; part++) y.part(t[2] == 1 ? 2 : 4, 0, 0, 11, 999, 0, t[2] == 1 ? 101 : 0);
            if (t[2] == 1) y.part(1, 0, 0, 11, 50, 0, 0);
            else y.part(2, 0, 1, 11, 999, 0, 100);
            y.machine();
            c.due("PART 23", y.change(23, t[0], t[1], t[2], 1), 0);
            c.due("a CHANGE of PART 23", y.cheapest(0, 0, 1, 0, 0, 1), 1);
        }
    }

    private static void lessGap() {
        c.sentence("less gap (0 to 99, 0 at least is left)");
        for (int gap : new int[] {0, 1, 50, 99}) {
            for (int less : new int[] {0, 1, 49, 50, 98, 99}) {
                // the hook goes to 200 less what gap is left: its mark is just that, or one more
                int left = Math.max(0, gap - less);
                for (int more = 0; more < 2; more++) {
                    NearlyShut x = new NearlyShut();
                    x.part(0, -1, 0, 11, 200, 0, 0);
                    x.part(2, 0, gap, 11, 999, 0, 200 - left + more);
                    x.machine();
                    x.change(1, less, 0, 0, 1);
                    int due = more == 1 ? -2 : left == gap ? 0 : 1;
                    c.due("gap " + gap + " less " + less + ", mark " + more + " more", x.cheapest(0, 0, 1, 0, 0, 0), due);
                }
            }
        }
        NearlyShut x = new NearlyShut();
        x.part(0, -1, 0, 11, 200, 0, 0);
        x.part(2, 0, 9, 11, 999, 0, 200);
        x.machine();
        for (int i = 0; i < 3; i++) x.change(1, 4, 0, 0, 1);
        c.due("three changes of one gap: 1 would be left by two", x.cheapest(0, 0, 1, 0, 0, 0), 7);
        x.turn(0, 1, 0, 5);
        c.due("WEAR stays all the same", x.cheapest(0, 0, 1, 0, 0, 0), 7);
        x.turn(0, 1, 1, 1);
        c.due("below 0 it would do", x.cheapest(0, 0, 1, 0, 0, 0), -2);
    }

    private static void moreMark() {
        c.sentence("more mark (-99 to 99)");
        NearlyShut x = new NearlyShut();
        x.part(0, -1, 0, 11, 100, 0, 0);
        x.part(2, 0, 0, 11, 100, 0, 199);
        x.machine();
        x.change(1, 0, -98, 0, 1);
        c.due("98 less", x.cheapest(0, 0, 1, 0, 0, 1), -2);
        x.change(1, 0, -99, 0, 1);
        c.due("99 less", x.cheapest(0, 0, 1, 0, 0, 1), 2);
        NearlyShut y = new NearlyShut();
        y.part(0, -1, 0, 11, 100, 0, 2);
        y.part(2, 0, 0, 11, 100, 0, 101);
        y.machine();
        y.change(0, 0, 98, 0, 1);
        c.due("98 more: the handle is over still", y.cheapest(0, 0, 1, 0, 0, 1), -2);
        y.change(0, 0, 99, 0, 1);
        c.due("99 more: it is not", y.cheapest(0, 0, 1, 0, 0, 1), 2);
        // a window is judged by its hook against the window's mark
        NearlyShut z = new NearlyShut();
        z.part(0, -1, 0, 11, 100, 0, 0);
        z.part(2, 0, 0, 11, 100, 0, 101);
        z.part(5, 1, 0, 11, 100, 0, 50);
        z.machine();
        z.change(2, 0, 50, 0, 1);
        c.due("a window's mark, 100", z.cheapest(0, 0, 1, 0, 0, 8), -2);
        z.change(2, 0, 51, 0, 1);
        c.due("a window's mark, 101", z.cheapest(0, 0, 1, 0, 0, 8), 2);
        c.sentence("(Nothing happens by all of this. Marks below 0 are as they come.)");
        // a hook that stays at 0 with a mark of 10 less 99, and a SET of up to 89
        for (int set = 87; set <= 91; set++) {
            NearlyShut w = new NearlyShut();
            w.part(0, -1, 0, 11, 0, 0, 0);
            w.part(2, 0, 0, 11, 0, 0, 10);
            w.machine();
            w.turn(0, 1, 1, set);
            w.change(1, 0, -99, 0, 1);
            c.due("mark -89 and SET " + set, w.cheapest(0, 0, 1, 0, 0, 0), set <= 89 ? 1 : -2);
        }
        NearlyShut w = new NearlyShut();
        w.part(0, -1, 0, 11, 0, 0, 0);
        w.part(2, 0, 0, 11, 0, 0, 10);
        w.machine();
        w.turn(0, 1, 1, 99);
        w.change(1, 0, -99, 0, 1);
        w.change(1, 0, -10, 0, 1);
        c.due("mark -99 by two", w.cheapest(0, 0, 1, 0, 0, 0), 3);
    }

    private static void moreStrength() {
        c.sentence("more strength (0 to 999), for coins (0 to 999)");
        int[][] cases = {{0, 0, 0, -2}, {0, 1, 0, 1}, {0, 1, 1, -2}, {0, 999, 998, 1}, {0, 999, 999, -2}, {999, 0, 999, -2},
            {999, 1, 999, 1}, {999, 999, 999, 1}, {500, 499, 999, -2}, {500, 500, 999, 1}};
        for (int[] n : cases) {
            // where the rod is too strong to bend the handle stays short of its mark
            NearlyShut x = new NearlyShut();
            x.part(0, -1, 0, 11, 100, 0, 60);
            x.part(1, 0, 0, 11, 50, n[0], 0);
            x.part(2, 1, 0, 11, 90, 0, 51);
            x.machine();
            x.change(1, 0, 0, n[1], 999);
            c.due("strength " + n[0] + " and " + n[1] + " by a force of " + n[2], x.cheapest(0, 0, 2, 0, n[2], 1), n[3]);
        }
        NearlyShut x = new NearlyShut();
        x.part(0, -1, 0, 11, 100, 0, 60);
        x.part(1, 0, 0, 11, 50, 0, 0);
        x.part(2, 1, 0, 11, 90, 0, 51);
        x.machine();
        x.change(1, 0, 0, 400, 1);
        x.change(1, 0, 0, 600, 1);
        c.due("two together", x.cheapest(0, 0, 2, 0, 999, 1), 3);
    }

    private static void fewestCoins() {
        c.sentence("CHEAPEST: the set of CHANGES for the fewest coins with which nothing of TRIED is UNLIKE");
        NearlyShut x = worn();
        // over up to a wear of 9: up to 15 wants 6 less
        // 500; still 500; 499 by two; 499 by one; 498 by two
        int[][] told = {{-6, 500}, {-5, 3}, {-1, 496}, {-6, 499}, {-1, 495}};
        int[] due = {1, 1, 6, 8, 18};
        for (int i = 0; i < told.length; i++) {
            x.change(2, 0, told[i][0], 0, told[i][1]);
            c.due("behind CHANGE " + i, x.cheapest(0, 0, 2, 15, 0, 0), due[i]);
        }
        NearlyShut y = worn();
        for (int i = 0; i < 8; i++) y.change(2, 0, i < 2 ? 0 : -1, 0, 999);
        c.due("six of eight for 5994", y.cheapest(0, 0, 2, 15, 0, 0), 252);
        NearlyShut z = worn();
        z.turn(0, 2, 1, 2);
        for (int i = 0; i < 8; i++) z.change(2, 0, -1, 0, 999);
        c.due("all eight for 7992", z.cheapest(0, 0, 2, 15, 0, 0), 255);
        z.turn(0, 2, 1, 3);
        c.due("all eight won't do", z.cheapest(0, 0, 2, 15, 0, 0), -2);
        // one change makes another harm
        NearlyShut w = worn();
        w.change(2, 0, -6, 0, 1);
        w.change(2, 0, 6, 0, 0);
        c.due("without the one that harms", w.cheapest(0, 0, 2, 15, 0, 0), 1);
    }

    private static void severalSets() {
        c.sentence("of several the fewest CHANGES, then the least number (bits)");
        NearlyShut x = worn();
        x.change(2, 0, -3, 0, 2);
        x.change(2, 0, -3, 0, 2);
        c.due("two for 4", x.cheapest(0, 0, 2, 15, 0, 0), 3);
        x.change(2, 0, -3, 0, 2);
        c.due("still the least number", x.cheapest(0, 0, 2, 15, 0, 0), 3);
        x.change(2, 0, -6, 0, 4);
        c.due("one for 4", x.cheapest(0, 0, 2, 15, 0, 0), 8);
        x.change(2, 0, -6, 0, 4);
        c.due("the first of two like it", x.cheapest(0, 0, 2, 15, 0, 0), 8);
        x.change(2, 0, -6, 0, 3);
        c.due("fewer coins", x.cheapest(0, 0, 2, 15, 0, 0), 32);
        NearlyShut y = worn();
        for (int i = 0; i < 8; i++) y.change(2, 0, -1, 0, 0);
        c.due("for no coins at all: none when none is wanted", y.cheapest(0, 0, 2, 9, 0, 0), 0);
        c.due("one when one is", y.cheapest(0, 0, 2, 10, 0, 0), 1);
        c.due("two", y.cheapest(0, 0, 2, 11, 0, 0), 3);
        c.due("six", y.cheapest(0, 0, 2, 15, 0, 0), 63);
        // {0} and {1, 2} cost alike, and so do {3} and {0}: few ones go ahead of a small number
        NearlyShut z = worn();
        z.change(2, 0, -3, 0, 1);
        z.change(2, 0, -3, 0, 1);
        z.change(2, 0, 0, 0, 0);
        z.change(2, 0, -6, 0, 2);
        c.due("8 has fewer CHANGES than 3", z.cheapest(0, 0, 2, 15, 0, 0), 8);
    }

    private static void noSetAtAll() {
        c.sentence("CHEAPEST: the set; -2: none; NONE without these.");
        NearlyShut x = new NearlyShut();
        x.part(0, -1, 0, 11, 100, 0, 0);
        x.part(4, 0, 0, 11, 100, 0, 0);
        x.machine();
        c.due("no CHANGES, no hooks", x.cheapest(0, 0, 1, 0, 0, 0), -2);
        x.change(0, 0, 99, 0, 0);
        c.due("the handle is over still", x.cheapest(0, 0, 1, 0, 0, 15), -2);
        x.change(0, 0, 99, 0, 0);
        c.due("it doesn't look so", x.cheapest(0, 0, 1, 0, 0, 15), 3);
        c.due("but by the lamp it does", x.cheapest(0, 0, 1, 0, 0, 4), -2);
        NearlyShut y = new NearlyShut();
        y.part(0, -1, 0, 11, 100, 0, 0);
        y.machine();
        c.due("one PART alone", y.cheapest(0, 0, 0, 0, 0, 0), -1);
        c.due("one PART alone, tried", y.tried(0, 0, 0, 0, 0, 0, -1), -1);
    }

    private static void nothingHappens() {
        c.sentence("(Nothing happens by all of this.");
        NearlyShut x = new NearlyShut();
        x.part(0, -1, 0, 11, 100, 0, 60);
        x.part(1, 0, 0, 11, 50, 30, 0);
        x.part(2, 1, 6, 11, 90, 0, 35);
        x.machine();
        x.turn(0, 1, 0, 3);
        x.turn(0, 2, 0, 8);
        x.turn(0, 2, 1, -2);
        x.push(0, 56, 30);
        x.change(2, 6, -9, 99, 1);
        x.change(1, 0, 9, 99, 1);
        int[][] before = states(x);
        x.tried(0, 1, 2, 15, 30, 1, -1);
        x.cheapest(0, 1, 2, 15, 30, 1);
        x.goes(0, 9, 9);
        int[][] behind = states(x);
        for (int p = 0; p < 3; p++) for (int w = 0; w < 5; w++) c.due("state " + p + ", " + w, behind[p][w], before[p][w]);
        c.due("the same PUSH", x.push(0, 56, 30), 56);
        c.due("the gap is as it was", x.state(0, 2, 0), 50 - 3 - 6 - 8);
    }

    private static int[][] states(NearlyShut x) {
        int[][] all = new int[3][5];
        for (int p = 0; p < 3; p++) for (int w = 0; w < 5; w++) all[p][w] = x.state(0, p, w);
        return all;
    }

    /** So many hooks of these strengths, each over its mark of 0 without a push. */
    private static NearlyShut hooks(int... strengths) {
        NearlyShut x = new NearlyShut();
        x.part(0, -1, 0, 11, 999, 0, 0);
        for (int strength : strengths) x.part(2, 0, 0, 11, 999, strength, 0);
        x.machine();
        return x;
    }

    private static void theAir() {
        c.sentence("the first height at which none is left is that at which the door goes (0, if none was OVER)");
        c.due("no PARTS", bare().goes(0, 1, 1), 0);
        c.due("no hooks", hooks().goes(0, 1, 1), 0);
        c.due("a hook that bears nothing", hooks(0).goes(0, 1, 1), 1);
        NearlyShut none = hooks(999, 999);
        none.turn(0, 1, 1, 1);
        none.turn(0, 2, 1, 1);
        c.due("two hooks, none OVER", none.goes(0, 1, 1), 0);
        none.turn(0, 2, 1, 0);
        c.due("one of them is", none.goes(0, 5, 1), 200);
        c.sentence("GOES (heights 0 to 400): the height; -2: not by 400; NONE without these.");
        c.due("398 bears 398", hooks(398).goes(0, 1, 1), 399);
        c.due("399 bears 399", hooks(399).goes(0, 1, 1), 400);
        c.due("400 bears 400", hooks(400).goes(0, 1, 1), -2);
        c.due("799 by 2", hooks(799).goes(0, 2, 1), 400);
        c.due("800 by 2", hooks(800).goes(0, 2, 1), -2);
        c.sentence("at a height (0 to 400 steps) it presses by height times a rate (1 to 99) on each of so many inches (1 to 999)");
        c.due("rate times inches", hooks(60).goes(0, 3, 4), 6);
        c.due("the other way round", hooks(60).goes(0, 4, 3), 6);
        c.due("exactly borne", hooks(60).goes(0, 5, 4), 4);
        c.due("99 times 999", hooks(999).goes(0, 99, 999), 1);
        c.due("99 times 1", hooks(999).goes(0, 99, 1), 11);
        c.due("1 times 999", hooks(999).goes(0, 1, 999), 2);
    }

    private static NearlyShut bare() {
        NearlyShut x = new NearlyShut();
        x.machine();
        return x;
    }

    private static void bearInLikeParts() {
        c.sentence("The hooks of a MACHINE that are OVER bear that in like parts, upwards");
        c.due("two of 10: 20 is borne, 21 is 11 for each", hooks(10, 10).goes(0, 1, 1), 21);
        c.due("three of 10: 30, 31", hooks(10, 10, 10).goes(0, 1, 1), 31);
        c.due("three of 10 by 2: 30, 32", hooks(10, 10, 10).goes(0, 2, 1), 16);
        c.due("seven of 10 by 71 inches", hooks(10, 10, 10, 10, 10, 10, 10).goes(0, 1, 71), 1);
        c.due("seven of 10 by 70 inches", hooks(10, 10, 10, 10, 10, 10, 10).goes(0, 1, 70), 2);
        int[] all = new int[23];
        java.util.Arrays.fill(all, 999);
        NearlyShut x = hooks(all);
        for (int hook = 1; hook <= 23; hook++) x.turn(0, hook, 1, -99);
        // each bears 999 and 5 times 99, 1494: 23 times that is 34362
        c.due("23 hooks", x.goes(0, 1, 86), 400);
        x.push(0, 999, 0);
        // each bears 999 and 5 times 1098, 6489: one step of 98901 is 4301 for each, two are 8601
        c.due("23 hooks, pushed, by the most", x.goes(0, 99, 999), 2);
        NearlyShut y = hooks(10, 10, 10);
        y.turn(0, 2, 1, 1);
        c.due("one that is not OVER bears nothing", y.goes(0, 1, 1), 21);
    }

    private static void allAtOnce() {
        c.sentence("height by height, those that bear too little go, all at once, and what is left bears all, again and again");
        // 31 is 11 for each of three: both of 10 go at once; one by one the second would be left with 16 of 31
        c.due("10, 10, 40", hooks(10, 10, 40).goes(0, 1, 1), 41);
        c.due("10, 10, 31", hooks(10, 10, 31).goes(0, 1, 1), 32);
        c.due("10, 10, 30", hooks(10, 10, 30).goes(0, 1, 1), 31);
        // 40, 20, 10: at 31 the 10 goes, 16 for each of two; at 41 the 20 goes, 41 is too much for 40
        c.due("40, 20, 10", hooks(40, 20, 10).goes(0, 1, 1), 41);
        c.due("10, 20, 40", hooks(10, 20, 40).goes(0, 1, 1), 41);
        c.due("20, 10, 60", hooks(20, 10, 60).goes(0, 1, 1), 61);
        // by 40 inches: the 10 goes, 20 for each of two is borne; 41: all go
        c.due("40, 20, 10 by 40", hooks(40, 20, 10).goes(0, 1, 40), 2);
        c.due("40, 20, 10 by 41", hooks(40, 20, 10).goes(0, 1, 41), 1);
        // hook i is one short of its share when those ahead of it are gone: 252 by 23 - i, upwards
        int[] falling = new int[23];
        for (int i = 0; i < 23; i++) falling[i] = (252 + 22 - i) / (23 - i) - 1;
        c.due("one behind the other", hooks(falling).goes(0, 1, 252), 1);
        falling[22] += 1;
        c.due("but for the last", hooks(falling).goes(0, 1, 252), 2);
    }

    private static void whatTheyBear() {
        c.sentence("each as much as its strength and 5 for each that its PLACE is above mark and SET");
        NearlyShut x = new NearlyShut();
        x.part(0, -1, 0, 11, 100, 0, 0);
        x.part(2, 0, 0, 11, 100, 7, 60);
        x.machine();
        int[][] cases = {{60, 0, 8}, {61, 0, 13}, {62, 0, 18}, {100, 0, 208}, {100, 40, 8}, {100, 39, 13}, {100, 41, 0}, {59, 0, 0},
            {59, -1, 8}, {0, -60, 8}, {0, -61, 13}, {100, -38, 398}, {100, -39, -2}};
        for (int[] n : cases) {
            x.turn(0, 1, 1, n[1]);
            x.push(0, n[0], 0);
            // the last bears 7 and 5 times 79, 402
            c.due("PLACE " + n[0] + ", SET " + n[1], x.goes(0, 1, 1), n[2]);
        }
    }

    private static void theFloor() {
        c.sentence("THE FLOOR bears so much (0 to 99999), and 50 more for each inch of holes (0 to 99), less 20 for each of the seats taken (0 to 400)");
        NearlyShut x = new NearlyShut();
        c.due("it bears 1000", x.floor(10, 10, 1000, 0, 0, 1, 0), 0);
        c.due("it bears 999", x.floor(10, 10, 999, 0, 0, 1, 0), 1);
        c.due("950 and a hole", x.floor(10, 10, 950, 1, 0, 1, 0), 0);
        c.due("949 and a hole", x.floor(10, 10, 949, 1, 0, 1, 0), 1);
        c.due("99 holes are 4950", x.floor(10, 50, 50, 99, 0, 1, 0), 0);
        c.due("99 holes, one less", x.floor(10, 50, 49, 99, 0, 1, 0), 1);
        c.due("1020 and a seat", x.floor(10, 10, 1020, 0, 1, 1, 0), 0);
        c.due("1019 and a seat", x.floor(10, 10, 1019, 0, 1, 1, 0), 1);
        c.due("400 seats are 8000", x.floor(10, 10, 9000, 0, 400, 1, 0), 0);
        c.due("400 seats, one less", x.floor(10, 10, 8999, 0, 400, 1, 0), 1);
        c.due("99999", x.floor(400, 25, 99999, 0, 0, 1, 0), 1);
        c.due("99999 and a hole", x.floor(400, 25, 99999, 1, 0, 1, 0), 0);
        c.sentence("if the door goes at a height at which the air presses, by rate alone times height times 10, more than that");
        int[][] airs = {{0, 1, 0}, {0, 99, 0}, {1, 1, 10}, {1, 99, 990}, {7, 13, 910}, {100, 99, 99000}, {400, 1, 4000}, {400, 24, 96000}};
        for (int[] a : airs) {
            c.due("height " + a[0] + ", rate " + a[1] + " on as much", x.floor(a[0], a[1], a[2], 0, 0, 1, 0), 0);
            if (a[2] > 0) c.due("height " + a[0] + ", rate " + a[1] + " on one less", x.floor(a[0], a[1], a[2] - 1, 0, 0, 1, 0), 1);
        }
        c.due("no more than it bears at height 0", x.floor(0, 99, 0, 0, 0, 1, 0), 0);
        c.due("more at height 1", x.floor(1, 1, 9, 0, 0, 1, 0), 1);
        c.due("ten at height 1", x.floor(1, 1, 10, 0, 0, 1, 0), 0);
        c.due("the most", x.floor(400, 99, 99999, 99, 0, 1, 0), 1);
    }

    private static void wires() {
        c.sentence("the floor goes, and of the wires (0 to 40) so many: (what it is more) by 100, upwards, all at most");
        NearlyShut x = new NearlyShut();
        int[][] cases = {{1000, 0}, {999, 1}, {950, 1}, {901, 1}, {900, 1}, {899, 2}, {800, 2}, {799, 3}, {1, 10}, {0, 10}};
        for (int[] n : cases) c.due("1000 on " + n[0], x.floor(10, 10, n[0], 0, 0, 40, 1), n[1]);
        for (int wires = 0; wires <= 40; wires++) {
            c.due("of " + wires + " wires", x.floor(10, 10, 500, 0, 0, wires, 1), Math.min(5, wires));
            c.due("of " + wires + " wires none", x.floor(10, 10, 1000, 0, 0, wires, 1), 0);
            c.due("the floor goes with " + wires + " wires", x.floor(10, 10, 500, 0, 0, wires, 0), 1);
        }
        c.due("3900 more", x.floor(10, 40, 100, 0, 0, 40, 1), 39);
        c.due("3901 more", x.floor(10, 40, 99, 0, 0, 40, 1), 40);
        c.due("4000 more", x.floor(10, 40, 0, 0, 0, 40, 1), 40);
        c.due("4001 and more", x.floor(11, 40, 0, 0, 0, 40, 1), 40);
        c.due("396000 more", x.floor(400, 99, 0, 0, 0, 40, 1), 40);
    }
}
