/** Part VI of the document, sentence by sentence: flights, wear, odds, marks gone back to; and count. */
public final class FlightAndMarkEdgesTest {
    private static final Checks c = new Checks();

    public static void main(String[] args) {
        flights();
        wearGrows();
        wearAtMost();
        wears();
        noneInFlights();
        odds();
        firstYear();
        fourMarks();
        asTheyWere();
        machinesToldSince();
        whatWasOfThem();
        onlyWhatWasOfThem();
        partsToldSince();
        allElseStays();
        roomAgain();
        marksStay();
        count();
        c.end("FlightAndMarkEdgesTest");
    }

    private static NearlyShut rod() {
        NearlyShut x = new NearlyShut();
        x.part(0, -1, 0, 11, 999, 0, 0);
        x.part(1, 0, 0, 11, 50, 30, 0);
        x.machine();
        return x;
    }

    private static void flights() {
        c.sentence("FLIGHTS of a MACHINE are counted (by so many, 0 to 9999 at once, 999999 at most)");
        NearlyShut x = rod();
        x.machine();
        c.due("none", x.fly(0, 0), 0);
        c.due("one", x.fly(0, 1), 1);
        c.due("none more", x.fly(0, 0), 1);
        c.due("9999", x.fly(0, 9999), 10000);
        c.due("10000", x.fly(0, 10000), -1);
        c.due("-1", x.fly(0, -1), -1);
        c.due("nothing happened", x.fly(0, 0), 10000);
        c.due("of another MACHINE", x.fly(1, 0), 0);
        for (int i = 1; i <= 98; i++) x.fly(0, 9999);
        c.due("989902 by now", x.fly(0, 0), 989902);
        c.due("999901", x.fly(0, 9999), 999901);
        c.due("999998", x.fly(0, 97), 999998);
        c.due("999999", x.fly(0, 1), 999999);
        c.due("999999 at most, by one", x.fly(0, 1), 999999);
        c.due("999999 at most, by 9999", x.fly(0, 9999), 999999);
        NearlyShut y = rod();
        for (int i = 1; i <= 100; i++) y.fly(0, 9999);
        c.due("999900", y.fly(0, 0), 999900);
        c.due("beyond at once", y.fly(0, 100), 999999);
        NearlyShut z = rod();
        for (int i = 1; i <= 100; i++) z.fly(0, 9999);
        c.due("just to it", z.fly(0, 99), 999999);
    }

    private static void wearGrows() {
        c.sentence("by each WEAR of its PARTS grows as told for that PART: by 1 for each so many FLIGHTS full");
        NearlyShut x = rod();
        x.machine();
        x.wears(1, 10);
        int[][] flown = {{0, 0}, {9, 0}, {1, 1}, {9, 1}, {1, 2}, {25, 4}, {4, 4}, {1, 5}, {10, 6}, {11, 7}, {8, 7}, {1, 8}};
        for (int[] f : flown) {
            x.fly(0, f[0]);
            c.due("WEAR behind " + f[0] + " more", x.state(0, 1, 1), f[1]);
        }
        c.due("of the PART that was told alone", x.state(0, 0, 1), 0);
        c.due("of the MACHINE that flew alone", x.state(1, 1, 1), 0);
        NearlyShut y = rod();
        y.wears(0, 1);
        y.wears(1, 9999);
        y.fly(0, 3);
        c.due("by each", y.state(0, 0, 1), 3);
        y.fly(0, 9995);
        c.due("9998", y.state(0, 1, 1), 0);
        y.fly(0, 1);
        c.due("9999", y.state(0, 1, 1), 1);
        NearlyShut z = rod();
        z.wears(0, 1);
        z.wears(1, 2);
        z.turn(0, 0, 0, 40);
        z.turn(0, 1, 0, 40);
        z.fly(0, 5);
        c.due("from what it was, by each", z.state(0, 0, 1), 45);
        c.due("from what it was, by two", z.state(0, 1, 1), 42);
        z.turn(0, 0, 0, 0);
        z.fly(0, 1);
        c.due("turned back it grows from there", z.state(0, 0, 1), 1);
        c.due("the sixth flight", z.state(0, 1, 1), 43);
    }

    private static void wearAtMost() {
        c.sentence("(0: never; 99 at most)");
        NearlyShut x = rod();
        x.fly(0, 9999);
        c.due("never", x.state(0, 1, 1), 0);
        x.wears(1, 1);
        x.wears(1, 0);
        x.fly(0, 9999);
        c.due("never any more", x.state(0, 1, 1), 0);
        for (int from : new int[] {0, 50, 97, 98, 99}) {
            NearlyShut y = rod();
            y.wears(1, 1);
            y.turn(0, 1, 0, from);
            y.fly(0, 1);
            c.due("from " + from + " by one", y.state(0, 1, 1), Math.min(99, from + 1));
            y.fly(0, 1);
            c.due("from " + from + " by two", y.state(0, 1, 1), Math.min(99, from + 2));
            y.fly(0, 9999);
            c.due("from " + from + " by many", y.state(0, 1, 1), 99);
        }
        NearlyShut z = rod();
        for (int part = 2; part < 24; part++) z.part(1, 0, 0, 11, 50, 30, 0);
        for (int part = 0; part < 24; part++) z.wears(part, 9999 / (part + 1));
        z.fly(0, 9999);
        for (int part = 0; part < 24; part++) c.due("PART " + part, z.state(0, part, 1), 9999 / (9999 / (part + 1)));
    }

    private static void wears() {
        c.sentence("WEAR of a PART grows by 1 for each so many FLIGHTS (0 to 9999): what was told (0 at first)");
        NearlyShut x = rod();
        c.due("at first", x.wears(1, 9999), 0);
        c.due("10000", x.wears(1, 10000), -1);
        c.due("-1", x.wears(1, -1), -1);
        c.due("9999 was told", x.wears(1, 0), 9999);
        c.due("0 was told", x.wears(1, 7), 0);
        c.due("another PART", x.wears(0, 7), 0);
        c.due("PART 2", x.wears(2, 7), -1);
        c.due("PART -1", x.wears(-1, 7), -1);
        NearlyShut y = new NearlyShut();
        y.part(0, -1, 0, 11, 999, 0, 0);
        c.due("without MACHINES", y.wears(0, 1), 0);
        y.machine();
        y.fly(0, 2);
        c.due("of a MACHINE told behind it", y.state(0, 0, 1), 2);
    }

    private static void noneInFlights() {
        c.sentence("none in n FLIGHTS (0 to 9999): a million, FLIGHT by FLIGHT less so much times u by a million, upwards");
        NearlyShut x = new NearlyShut();
        // 500001: 499999 is left, then less 249999.999999, upwards 250000;
        // 11739: 976659 are left behind two, then less 11465.000001, upwards 11466
        int[][] cases = {{0, 0, 0}, {0, 1, 0}, {0, 9999, 0}, {1, 0, 0}, {1, 1, 1}, {1, 2, 2}, {1, 9999, 9999}, {2, 1, 2}, {2, 2, 4},
            {500000, 1, 500000}, {500000, 2, 750000}, {500000, 3, 875000}, {500000, 6, 984375}, {500000, 7, 992188},
            {500001, 1, 500001}, {500001, 2, 750001}, {333333, 1, 333333}, {333333, 2, 555556}, {999999, 0, 0}, {999999, 1, 999999},
            {999999, 2, 1000000}, {999999, 9999, 1000000}, {1000000, 0, 0}, {1000000, 1, 1000000}, {1000000, 2, 1000000},
            {1000000, 9999, 1000000}, {100000, 2, 190000}, {100000, 7, 521704},
            {11739, 2, 23341}, {11739, 3, 34807}};
        for (int[] n : cases) c.due("u " + n[0] + ", n " + n[1], x.odds(n[0], n[1]), n[2]);
    }

    private static void odds() {
        c.sentence("ODDS: chances in a million: of each FLIGHT u (0 to 1000000)");
        NearlyShut x = new NearlyShut();
        for (int u : new int[] {0, 1, 2, 999999, 1000000}) c.due("one FLIGHT of " + u, x.odds(u, 1), u);
        c.due("1000001", x.odds(1000001, 1), -1);
        c.due("-1", x.odds(-1, 1), -1);
        c.due("n -1", x.odds(1, -1), -1);
        c.due("n 10000", x.odds(1, 10000), -1);
        // flight by flight, told plainly: each answer for each n of a small u, and far ones
        for (int u : new int[] {3, 777, 65537}) {
            long none = 1000000;
            for (int n = 0; n <= 9999; n++) {
                if (n < 60 || n % 1237 == 0 || n == 9999) c.due("u " + u + ", n " + n, x.odds(u, n), 1000000 - none);
                none -= (none * u + 999999) / 1000000;
            }
        }
    }

    private static void firstYear() {
        c.sentence("FIRST: with n FLIGHTS a year (1 to 9999) the first year (1 to 99) by which one in all has a chance of p or more.");
        NearlyShut x = new NearlyShut();
        int[][] cases = {{0, 1, 0, 1}, {0, 9999, 0, 1}, {0, 1, 1, -2}, {0, 9999, 1, -2}, {1, 1, 1, 1}, {1, 1, 2, 2}, {1, 1, 98, 98},
            {1, 1, 99, 99}, {1, 1, 100, -2}, {1, 9999, 9999, 1}, {1, 9999, 10000, 2}, {1, 9999, 989901, 99}, {1, 9999, 989902, -2},
            {500000, 1, 499999, 1}, {500000, 1, 500000, 1}, {500000, 1, 500001, 2}, {500000, 2, 750000, 1}, {500000, 2, 750001, 2},
            {1000000, 1, 1000000, 1}, {1000000, 9999, 1000000, 1}, {999999, 1, 999999, 1}, {999999, 1, 1000000, 2},
            {999999, 2, 1000000, 1}, {2, 5000, 10000, 1}};
        for (int[] n : cases) c.due("u " + n[0] + ", n " + n[1] + ", p " + n[2], x.first(n[0], n[1], n[2]), n[3]);
        c.sentence("FIRST (p 0 to 1000000): the year; -2: not by 99; NONE without these.");
        int[][] bad = {{-1, 1, 1}, {1000001, 1, 1}, {1, 0, 1}, {1, -1, 1}, {1, 10000, 1}, {1, 1, -1}, {1, 1, 1000001}};
        for (int[] n : bad) c.due("u " + n[0] + ", n " + n[1] + ", p " + n[2], x.first(n[0], n[1], n[2]), -1);
    }

    private static void fourMarks() {
        c.sentence("MARKS 0 to 3: NOW and all of MACHINES");
        NearlyShut x = rod();
        for (int k = -2; k <= 5; k++) c.due("never made, " + k, x.back(k), -1);
        for (int k = 0; k < 4; k++) {
            x.clock(10 * k + 1);
            x.turn(0, 1, 0, 20 + k);
            c.due("MARK " + k, x.mark(k), 10 * k + 1);
            if (k < 3) c.due("the next is not made", x.back(k + 1), -1);
        }
        c.due("MARK 4", x.mark(4), -1);
        c.due("MARK -1", x.mark(-1), -1);
        for (int k : new int[] {3, 0, 2, 1, 1, 3, 0}) {
            x.turn(0, 1, 0, 99);
            c.due("back to " + k, x.back(k), 10 * k + 1);
            c.due("NOW", x.count(0), 10 * k + 1);
            c.due("WEAR of " + k, x.state(0, 1, 1), 20 + k);
        }
        c.due("back to 4", x.back(4), -1);
        c.due("back to -1", x.back(-1), -1);
        NearlyShut y = new NearlyShut();
        c.due("made of nothing", y.mark(3), 0);
        y.machine();
        y.clock(9999);
        c.due("gone back", y.back(3), 0);
        c.due("nothing is there", y.count(2), 0);
    }

    private static void asTheyWere() {
        c.sentence("(WEAR, SET, BENT, PLACES, FLIGHTS, which bulletins each took); gone back to: these are as they were");
        NearlyShut x = rod();
        for (int i = 1; i < 20; i++) x.machine();
        for (int part = 2; part < 24; part++) x.part(1, 0, 0, 11, 50, 30, 0);
        Checks.order(x, 1, 0, "look lamp");
        Checks.order(x, 1, 0, "look vent");
        int last = 19;
        x.turn(last, 23, 0, 5);
        x.turn(last, 23, 1, -5);
        x.push(last, 60, 30);
        x.fly(last, 77);
        x.takes(last, 0, true);
        x.clock(4);
        x.mark(1);
        x.turn(last, 23, 0, 9);
        x.turn(last, 23, 1, 9);
        x.anew(last, 23);
        x.push(last, 20, 0);
        x.fly(last, 7);
        x.takes(last, 0, false);
        x.takes(last, 1, true);
        x.turn(0, 0, 0, 9);
        x.turn(0, 0, 1, 9);
        x.push(0, 90, 30);
        x.fly(0, 7);
        x.takes(0, 1, true);
        x.clock(9);
        c.due("back", x.back(1), 4);
        int[] was = {50, 5, -5, 5};
        for (int what = 0; what < 4; what++) c.due("what " + what + " of the last", x.state(last, 23, what), was[what]);
        c.due("PLACE of its handle", x.state(last, 0, 0), 60);
        c.due("FLIGHTS of the last", x.fly(last, 0), 77);
        c.due("bulletins of the last", x.bound(last, 3), 4);
        for (int what = 0; what < 4; what++) c.due("what " + what + " of the first", x.state(0, 0, what), 0);
        c.due("BENT of the first", x.state(0, 1, 3), 0);
        c.due("FLIGHTS of the first", x.fly(0, 0), 0);
        c.due("bulletins of the first", x.bound(0, 3), 0);
        c.due("MACHINES", x.count(2), 20);
    }

    private static void machinesToldSince() {
        c.sentence("MACHINES told since, with their STAMPS, what was SEEN of them and PAPERS' naming of them (none then), are gone");
        NearlyShut x = rod();
        x.mark(0);
        c.due("told since", x.machine(), 1);
        Checks.order(x, 1, 0, "ground");
        x.push(1, 60, 30);
        x.turn(1, 1, 0, 5);
        x.turn(1, 1, 1, 5);
        x.fly(1, 5);
        x.takes(1, 0, true);
        x.back(0);
        c.due("gone", x.count(2), 1);
        c.due("no state", x.state(1, 0, 0), -1000);
        c.due("no push", x.push(1, 1, 1), -1);
        c.due("not bound", x.bound(1, 4), -1);
        c.due("not warned", x.warned(1, 0), -1);
        c.due("no flights", x.fly(1, 1), -1);
        c.due("told again", x.machine(), 1);
        for (int what = 0; what < 4; what++) {
            c.due("a new one, handle, what " + what, x.state(1, 0, what), 0);
            c.due("a new one, rod, what " + what, x.state(1, 1, what), 0);
        }
        c.due("it took nothing", x.bound(1, 4), 0);
        c.due("it never flew", x.fly(1, 0), 0);
    }

    private static void whatWasOfThem() {
        c.sentence("with their STAMPS, what was SEEN of them and PAPERS' naming of them (none then), are gone");
        NearlyShut x = rod();
        x.machine();
        x.clock(5);
        x.mark(0);
        x.machine();
        x.machine();
        // machines 0, 1 stay; 2, 3 go
        for (int machine = 0; machine < 4; machine++) x.stamp(machine, machine, 7, 5);
        for (int machine = 3; machine >= 0; machine--) x.see(machine, machine, 5, machine == 1);
        for (int machine = 0; machine < 4; machine++) x.paper(machine, 5, 0);
        for (int paper = 0; paper < 4; paper++) x.read(1, paper, 5);
        c.due("one is true, three are false", x.fewest(), 3);
        x.back(0);
        c.due("STAMPS", x.count(5), 2);
        c.due("SEEN", x.count(6), 2);
        c.due("PAPERS", x.count(7), 4);
        c.due("the one of MACHINE 0 is false", x.fewest(), 1);
        c.due("STAMP 0", x.sure(0), 2);
        c.due("STAMP 1", x.sure(1), 1);
        c.due("STAMP 2", x.sure(2), -1);
        c.due("WARNED of 1", x.warned(1, 5), 2);
        c.due("MACHINE 2 again", x.machine(), 2);
        c.due("no PAPER names it", x.warned(2, 5), 0);
        c.due("PAPER 2 is known still", x.knew(1, 2), 5);
        c.due("room for a STAMP", x.stamp(2, 2, 7, 5), 2);
        c.due("nothing was SEEN of it", x.sure(2), 0);
        Checks.order(x, 0, 5, "must 3 within 0; look lamp if done > 0");
        c.due("its STAMP", x.bound(2, 3), 4);
        x.machine();
        c.due("no STAMP of the last is left", x.bound(3, 0), 8);
        c.due("none done", x.bound(3, 3), 0);
    }

    /** The first MACHINE that goes and the last that stays, with their first and last TASKS and all PAPERS. */
    private static void onlyWhatWasOfThem() {
        c.sentence("MACHINES told since, with their STAMPS, what was SEEN of them and PAPERS' naming of them (none then), are gone");
        for (int stay = 0; stay <= 19; stay += 19) {
            for (int task = 0; task < 10; task += 9) {
                NearlyShut x = new NearlyShut();
                for (int i = 0; i < stay; i++) x.machine();
                x.mark(3);
                x.machine();
                x.stamp(stay, task, 0, 0);
                x.see(stay, task, 0, true);
                if (stay > 0) x.stamp(stay - 1, task, 0, 0);
                if (stay > 0) x.see(stay - 1, task, 0, true);
                for (int paper = 0; paper < 30; paper++) x.paper(stay == 0 || paper != 15 ? stay : stay - 1, 0, 0);
                for (int paper = 0; paper < 30; paper++) x.read(paper / 2, paper, 0);
                c.due("WARNED", x.warned(stay, 0) != 0, true);
                x.back(3);
                c.due("STAMPS", x.count(5), stay > 0 ? 1 : 0);
                c.due("SEEN", x.count(6), stay > 0 ? 1 : 0);
                c.due("FEWEST", x.fewest(), 0);
                if (stay > 0) c.due("the one that stays", x.sure(0), 1);
                if (stay > 0) c.due("WARNED of the one that stays", x.warned(stay - 1, 0), 1 << 7);
                c.due("told again", x.machine(), stay);
                c.due("no PAPER names it", x.warned(stay, 0), 0);
                c.due("no STAMP of it is false", x.stamp(stay, task, 0, 0), stay > 0 ? 1 : 0);
                c.due("nothing was SEEN of it", x.sure(stay > 0 ? 1 : 0), 0);
            }
        }
    }

    private static void partsToldSince() {
        c.sentence("PARTS told since stay, as at first");
        NearlyShut x = new NearlyShut();
        x.machine();
        x.mark(2);
        x.part(0, -1, 0, 11, 100, 0, 0);
        x.part(1, 0, 0, 11, 50, 30, 0);
        x.machine();
        x.push(0, 100, 30);
        for (int part = 0; part < 2; part++) {
            x.turn(0, part, 0, 9);
            x.turn(0, part, 1, 9);
        }
        x.wears(1, 5);
        x.back(2);
        c.due("PARTS", x.count(1), 2);
        for (int part = 0; part < 2; part++) {
            for (int what = 0; what < 4; what++) c.due("PART " + part + ", what " + what, x.state(0, part, what), 0);
        }
        c.due("pushed", x.push(0, 100, 30), 100);
        c.due("what was told of its wear stays", x.wears(1, 5), 5);
        x.fly(0, 5);
        c.due("it wears", x.state(0, 1, 1), 1);
    }

    private static void allElseStays() {
        c.sentence("all else stays");
        NearlyShut x = rod();
        x.clock(2);
        x.mark(0);
        x.clock(7);
        x.part(2, 1, 0, 11, 50, 0, 60);
        x.change(2, 0, -60, 0, 3);
        Checks.order(x, 0, 2 + 5, "look lamp");
        Checks.order(x, 1, 7, "look vent");
        x.stamp(0, 1, 1, 6);
        x.see(0, 1, 6, true);
        x.paper(0, 6, 0);
        x.read(4, 0, 7);
        x.feed(0x6c6f6f6b, 0x2076656e, 0x74202020, 0x20202020, 0x20202020);
        x.end(9);
        c.due("back", x.back(0), 2);
        int[] counts = {2, 3, 1, 1, 2, 1, 1, 1, 9};
        for (int what = 0; what <= 8; what++) c.due("count " + what, x.count(what), counts[what]);
        c.due("the CHANGE", x.cheapest(0, 0, 1, 0, 0, 0), 1);
        c.due("the STAMP", x.sure(0), 1);
        c.due("not in force", x.bound(0, 3), 0);
        c.due("the TAPE", x.order(0, 2), 2);
        c.due("in force", x.bound(0, 3), 2);
        c.due("not read by NOW", x.knew(4, 0), -2);
        c.due("WARNED by 7", x.warned(0, 7), 16);
        x.clock(7);
        c.due("in force on 7", x.bound(0, 3), 6);
        c.due("read on 7", x.knew(4, 0), 7);
        c.due("a bulletin to take", x.takes(0, 1, true), true);
    }

    private static void roomAgain() {
        c.sentence("A STAMP: its number; NONE: there are 200, or something is not as told.");
        NearlyShut x = new NearlyShut();
        x.machine();
        x.mark(0);
        x.machine();
        for (int i = 0; i < 200; i++) x.stamp(i < 3 ? 0 : 1, 0, 0, 0);
        for (int i = 0; i < 100; i++) x.see(i < 2 ? 0 : 1, 9, 0, false);
        c.due("no room", x.stamp(0, 0, 0, 0), -1);
        c.due("no room to see", x.see(0, 9, 0, false), -1);
        x.back(0);
        c.due("three are left", x.count(5), 3);
        c.due("one is false of these", x.fewest(), 1);
        c.due("room for a fourth", x.stamp(0, 0, 1, 0), 3);
        c.due("room to see", x.see(0, 0, 0, true), 3);
        c.due("one of four", x.sure(3), 0);
        NearlyShut y = new NearlyShut();
        y.mark(0);
        for (int round = 0; round < 3; round++) {
            for (int i = 0; i < 20; i++) c.due("MACHINE " + i, y.machine(), i);
            c.due("a 21st", y.machine(), -1);
            y.back(0);
            c.due("none is left", y.count(2), 0);
        }
    }

    private static void marksStay() {
        c.sentence("It is gone back to a MARK: NOW; NONE, and nothing happens, if it was never made, or without it.");
        NearlyShut x = rod();
        x.clock(3);
        x.mark(0);
        x.clock(5);
        x.turn(0, 0, 0, 7);
        x.mark(1);
        c.due("to the first", x.back(0), 3);
        c.due("to the second, that was made behind it", x.back(1), 5);
        c.due("WEAR", x.state(0, 0, 1), 7);
        c.due("to the first again", x.back(0), 3);
        c.due("WEAR of then", x.state(0, 0, 1), 0);
        c.due("never made", x.back(2), -1);
        c.due("NOW stays", x.count(0), 3);
        x.turn(0, 0, 0, 8);
        c.due("made again over it", x.mark(1), 3);
        x.turn(0, 0, 0, 9);
        x.back(1);
        c.due("WEAR of the new one", x.state(0, 0, 1), 8);
        c.due("clock goes on from there", x.clock(4), true);
        c.due("not back", x.clock(3), false);
    }

    private static void count() {
        c.sentence("What 0: NOW, 1: PARTS, 2: MACHINES, 3: CHANGES, 4: ORDERS, 5: STAMPS, 6: what was SEEN, 7: PAPERS, 8: bytes of the TAPE. NONE for others.");
        NearlyShut x = rod();
        x.clock(77);
        for (int i = 0; i < 3; i++) x.machine();
        for (int i = 0; i < 3; i++) x.change(0, 0, 0, 0, 0);
        for (int i = 0; i < 5; i++) Checks.order(x, 0, 77, "ground");
        for (int i = 0; i < 6; i++) x.stamp(0, 0, 0, 0);
        for (int i = 0; i < 7; i++) x.see(0, 0, 0, true);
        for (int i = 0; i < 8; i++) x.paper(-1, 0, 0);
        x.feed(0, 0, 0, 0, 0);
        x.end(9);
        int[] due = {77, 2, 4, 3, 5, 6, 7, 8, 9};
        for (int what = 0; what <= 8; what++) c.due("what " + what, x.count(what), due[what]);
        for (int what : new int[] {-1, 9, 10, Integer.MIN_VALUE, Integer.MAX_VALUE}) c.due("what " + what, x.count(what), -1);
    }
}
