/** Promises 16 to 20: the tape, orders and what they bind to. */
public final class OrdersTest {
    private static final Checks c = new Checks();

    public static void main(String[] args) {
        feed();
        end();
        order();
        faultsOutOfPlace();
        faultsOfNumbers();
        faultsOfDepth();
        faultsOfMany();
        faultsOfClauses();
        takes();
        owedAndLate();
        force();
        look();
        grounded();
        tests();
        values();
        c.end("OrdersTest");
    }

    private static NearlyShut withMachines() {
        NearlyShut x = new NearlyShut();
        x.part(0, -1, 0, 11, 100, 0, 50);
        x.part(1, 0, 0, 11, 10, 0, 0);
        x.machine();
        x.machine();
        return x;
    }

    private static void feed() {
        NearlyShut x = new NearlyShut();
        for (int i = 1; i <= 20; i++) c.due("feed " + i, x.feed(i, -1, 0, 1 << 31, 7), 20 * i);
        c.due("a 21st", x.feed(0, 0, 0, 0, 0), -1);
        c.due("bytes", x.count(8), 400);
        x.end(381);
        c.due("19 are left", x.feed(0, 0, 0, 0, 0), -1);
        x.end(380);
        c.due("20 are left", x.feed(0, 0, 0, 0, 0), 400);
        // "ground" with the highest byte first
        x.end(0);
        x.feed(0x67726f75, 0x6e642020, 0x20202020, 0x20202020, 0x20202020);
        c.due("the highest first", x.order(0, 0), 0);
    }

    private static void end() {
        NearlyShut x = new NearlyShut();
        c.due("end 0", x.end(0), 0);
        c.due("end 1 of none", x.end(1), -1);
        x.feed(0, 0, 0, 0, 0);
        c.due("end 21", x.end(21), -1);
        c.due("end -1", x.end(-1), -1);
        c.due("nothing happened", x.count(8), 20);
        c.due("end 20", x.end(20), 20);
        c.due("end 3", x.end(3), 3);
        c.due("end 4", x.end(4), -1);
        c.due("bytes", x.count(8), 3);
    }

    private static void order() {
        NearlyShut x = withMachines();
        x.clock(4);
        Checks.type(x, "ground");
        c.due("kind 3", x.order(3, 4), -1);
        c.due("kind -1", x.order(-1, 4), -1);
        c.due("an earlier day", x.order(0, 3), -1);
        c.due("day 10000", x.order(0, 10000), -1);
        c.due("nothing happens", x.count(8), 6);
        c.due("order", x.order(0, 9999), 0);
        c.due("the tape is empty", x.count(8), 0);
        c.due("a fault", Checks.order(x, 0, 4, "grounds"), -3);
        c.due("the tape is empty then, too", x.count(8), 0);
        c.due("none comes by a fault", x.count(4), 1);
        for (int i = 1; i < 12; i++) c.due("order " + i, Checks.order(x, i % 3, 4, "look lamp"), i);
        c.due("a thirteenth", Checks.order(x, 0, 4, "ground"), -1);
        c.due("ahead of its faults", Checks.order(x, 0, 4, "x"), -1);
        c.due("ORDERS", x.count(4), 12);
    }

    private static void fault(String text, int place, int what) {
        NearlyShut x = new NearlyShut();
        c.due("\"" + text + "\"", Checks.order(x, 0, 0, text), -2 - (1 + 8 * place + what));
        c.due("no order by \"" + text + "\"", x.count(4), 0);
    }

    private static void good(String text) {
        c.due("\"" + text + "\"", Checks.order(new NearlyShut(), 0, 0, text), 0);
    }

    private static void faultsOutOfPlace() {
        fault("", 0, 0);
        fault("   ", 3, 0);
        fault("  x", 2, 0);
        fault("Ground", 0, 0);
        fault("groundx", 0, 0);
        fault("ground;", 7, 0);
        fault("ground ;  ", 10, 0);
        fault("ground;;ground", 7, 0);
        fault("ground ground", 7, 0);
        fault("ground 5", 7, 0);
        fault("ground 1234567", 7, 0);
        fault("ground if", 9, 0);
        fault("ground if ]", 10, 0);
        fault("ground if day", 13, 0);
        fault("ground if day 3", 14, 0);
        fault("ground if day < ", 16, 0);
        fault("ground if day < = 3", 16, 0);
        fault("ground if day =< 3", 15, 0);
        fault("ground if day == 3", 15, 0);
        fault("ground if 1 < 2 < 3", 16, 0);
        fault("ground if [1 < 2", 16, 0);
        fault("ground if [1 < 2;", 16, 0);
        fault("ground if 1 < 2]", 15, 0);
        fault("ground if [1] < 2", 12, 0);
        fault("ground if not", 13, 0);
        fault("ground if notday < 2", 10, 0);
        fault("ground if 1 < not 2", 14, 0);
        fault("ground if 1 < 2 and", 19, 0);
        fault("ground if 1 < 2 or or 1 < 2", 19, 0);
        fault("ground if 1 < 2 andor", 16, 0);
        fault("ground if days < 2", 10, 0);
        fault("ground if dayz < 2", 10, 0);
        fault("ground if aday < 2", 10, 0);
        fault("ground if day2 < 2", 13, 0);
        fault(";".repeat(400), 0, 0);
        fault("ground if " + "1".repeat(390), 10, 1);
        fault("ground" + " ".repeat(393) + ";", 400, 0);
        good("ground if 1=1 or " + " ".repeat(380) + "1=2");
        fault("ground if 2 day < 2", 12, 0);
        fault("ground if -2 < 2", 10, 0);
        fault("ground if 2 + < 2", 14, 0);
        fault("ground if 2 + + 2 < 2", 14, 0);
        fault("ground\tif 1 < 2", 6, 0);
        fault("ground if 1 < 2" + (char) 255, 15, 0);
        fault("ground if 1 < 2" + (char) 0, 15, 0);
        fault("must", 4, 0);
        fault("must x", 5, 0);
        fault("must day within 3", 5, 0);
        fault("must 3 with 3", 7, 0);
        fault("must 3 3", 7, 0);
        fault("must 3 within", 13, 0);
        fault("must 3 within day", 14, 0);
        fault("must 3 within 3 + 1", 16, 0);
        fault("look", 4, 0);
        fault("look door", 5, 0);
        fault("look hook", 5, 0);
        fault("look 1", 5, 0);
        fault("look vent lamp", 10, 0);
        fault("force", 5, 0);
        fault("force [1]", 6, 0);
        fault("force 1 < 2", 8, 0);
        fault("force lamp", 6, 0);
        fault("day", 0, 0);
        fault("if", 0, 0);
        good("ground");
        good(" ground ");
        good("must3within4if[1<2]and not[day>=since];force1+2-day if not not 1=1or 2<=3");
        good("look handle;look vent;look lamp;look window");
        good("ground if machine+flights+bent+wear+done+since+day > 00000");
    }

    private static void faultsOfNumbers() {
        fault("must 10 within 3", 5, 1);
        fault("must 99999 within 3", 5, 1);
        fault("must 000000 within 3", 5, 1);
        good("must 00009 within 00999");
        fault("must 9 within 1000", 14, 1);
        fault("must 9 within 000999", 14, 1);
        fault("must 9 within 12345678901234567890", 14, 1);
        fault("force 100000", 6, 1);
        good("force 99999");
        fault("force 1 + 000001", 10, 1);
        fault("ground if 123456 < 2", 10, 1);
        fault("ground if 2 < 123456", 14, 1);
        fault("ground if 2 < 1 or 123456 < 2", 19, 1);
        fault("ground if 2 < 1 and 123456 < 2", 20, 1);
        fault("ground if [not 123456 < 2]", 15, 1);
    }

    private static void faultsOfDepth() {
        String ten = "[[[[[[[[[[";
        good("ground if " + ten + "1<2]]]]]]]]]]");
        fault("ground if " + ten + "[1<2]]]]]]]]]]]", 20, 2);
        fault("ground if " + ten + " not 1<2]]]]]]]]]]", 21, 2);
        good("ground if not not not not not not not not not not 1<2");
        fault("ground if not not not not not not not not not not not 1<2", 50, 2);
        fault("ground if not not not not not not not not not not [ 1<2 ]", 50, 2);
        good("ground if not[not[not[not[not[1<2]]]]]");
        fault("ground if not[not[not[not[not[[1<2]]]]]]", 30, 2);
        good("ground if [[[1<2]]] and [[[[[[[[[[1<2]]]]]]]]]] or not 1<2");
        fault("ground if [[[1<2]]] and [[[[[[[[[[[1<2]]]]]]]]]]]", 34, 2);
    }

    private static String ones(int many) {
        StringBuilder s = new StringBuilder("1");
        for (int i = 1; i < many; i++) s.append("+1");
        return s.toString();
    }

    private static void faultsOfMany() {
        good("force " + ones(60));
        fault("force " + ones(61), 126, 3);
        fault("force " + ones(60) + "+x", 126, 0);
        fault("force " + ones(60) + "+", 126, 0);
        fault("force " + ones(60) + "+123456", 126, 1);
        good("force " + ones(57) + " if 1<2");
        fault("force " + ones(58) + " if 1<2", 6 + 115 + 6, 3);
        fault("force " + ones(59) + " if 1<2", 6 + 117 + 5, 3);
        fault("force " + ones(59) + " if 1+2", 6 + 117 + 6, 3);
        fault("force " + ones(60) + " if 1<2", 6 + 119 + 4, 3);
        fault("force " + ones(59) + " if 1]2", 6 + 117 + 5, 0);
        good("must 1 within 1;look lamp;force " + ones(60));
        fault("force " + ones(30) + ";force " + ones(31), 6 + 59 + 7 + 60, 3);
    }

    private static void faultsOfClauses() {
        StringBuilder twelve = new StringBuilder("ground");
        for (int i = 1; i < 12; i++) twelve.append(";ground");
        int length = twelve.length();
        good(twelve.toString());
        fault(twelve + "; ground", length + 2, 4);
        fault(twelve + ";force", length + 1, 4);
        fault(twelve + ";x", length + 1, 0);
        fault(twelve + ";5", length + 1, 0);
        fault(twelve + "; ", length + 2, 0);
        fault(twelve + " 5", length + 1, 0);
        fault(twelve + " if 1", length + 5, 0);
    }

    private static void takes() {
        NearlyShut x = withMachines();
        Checks.order(x, 0, 0, "look lamp");
        Checks.order(x, 1, 3, "look vent");
        Checks.order(x, 2, 0, "look handle");
        c.due("a law", x.takes(0, 0, true), false);
        c.due("a word", x.takes(0, 2, true), false);
        c.due("no order", x.takes(0, 3, true), false);
        c.due("order -1", x.takes(0, -1, true), false);
        c.due("machine 2", x.takes(2, 1, true), false);
        c.due("machine -1", x.takes(-1, 1, true), false);
        c.due("not taken, not", x.takes(0, 1, false), false);
        c.due("taken, ahead of its day", x.takes(0, 1, true), true);
        c.due("again", x.takes(0, 1, true), false);
        c.due("not yet in force", x.bound(0, 3), 4);
        x.clock(3);
        c.due("in force", x.bound(0, 3), 6);
        c.due("the other did not take it", x.bound(1, 3), 4);
        x.mark(0);
        c.due("not any more", x.takes(0, 1, false), true);
        c.due("bound no more", x.bound(0, 3), 4);
        x.takes(1, 1, true);
        x.back(0);
        c.due("taken as it was", x.bound(0, 3), 6);
        c.due("and not taken", x.bound(1, 3), 4);
    }

    private static void owedAndLate() {
        NearlyShut x = withMachines();
        Checks.order(x, 0, 2, "must 0 within 0; must 9 within 3; must 5 within 1 if machine = 1");
        c.due("not in force", x.bound(0, 0), 0);
        x.clock(2);
        c.due("owed", x.bound(0, 0), 513);
        c.due("owed of 1", x.bound(1, 0), 545);
        c.due("not late on its day", x.bound(0, 1), 0);
        x.clock(3);
        c.due("late behind it", x.bound(1, 1), 1);
        x.clock(4);
        c.due("two days", x.bound(1, 1), 33);
        x.clock(5);
        c.due("three days", x.bound(0, 1), 1);
        x.clock(6);
        c.due("four days", x.bound(0, 1), 513);
        x.stamp(0, 9, 1, 0);
        c.due("stamped", x.bound(0, 0), 1);
        c.due("stamped, not late", x.bound(0, 1), 1);
        c.due("the other's is not", x.bound(1, 1), 545);
        Checks.order(x, 0, 6, "must 9 within 5; must 0 within 9");
        c.due("stamped ahead of the order", x.bound(0, 0), 1);
        c.due("one of two is late", x.bound(0, 1), 1);
        c.due("what 5", x.bound(0, 5), -1);
        c.due("what -1", x.bound(0, -1), -1);
        c.due("machine 2", x.bound(2, 0), -1);
        c.due("machine -1", x.bound(-1, 0), -1);
    }

    private static void force() {
        NearlyShut x = withMachines();
        c.due("without", x.bound(0, 2), 999);
        Checks.order(x, 0, 0, "force 99999");
        c.due("held to 999", x.bound(0, 2), 999);
        Checks.order(x, 0, 0, "force 500 - 20 + 3; force 600; force 7 if machine = 1");
        c.due("the least", x.bound(0, 2), 483);
        c.due("the least of 1", x.bound(1, 2), 7);
        Checks.order(x, 1, 0, "force 1 - 2");
        c.due("not taken", x.bound(0, 2), 483);
        x.takes(0, 2, true);
        c.due("held to 0", x.bound(0, 2), 0);
        Checks.order(x, 2, 0, "force 1");
        c.due("a word binds none", x.bound(1, 2), 7);
    }

    private static void look() {
        NearlyShut x = withMachines();
        c.due("without", x.bound(0, 3), 0);
        Checks.order(x, 0, 0, "look handle if day = 0; look vent if day = 1; look lamp if day = 2; look window if day = 3");
        for (int day = 0; day < 4; day++) {
            x.clock(day);
            c.due("look on day " + day, x.bound(0, 3), 1 << day);
        }
        x.clock(4);
        c.due("nothing", x.bound(0, 3), 0);
    }

    private static void grounded() {
        NearlyShut x = withMachines();
        c.due("without", x.bound(0, 4), 0);
        Checks.order(x, 0, 0, "ground if machine > 0; must 1 within 2");
        c.due("by the clause", x.bound(1, 4), 1);
        c.due("not the other", x.bound(0, 4), 0);
        x.clock(2);
        c.due("not late", x.bound(0, 4), 0);
        x.clock(3);
        c.due("by what is late", x.bound(0, 4), 1);
        x.stamp(0, 1, 0, 3);
        c.due("stamped", x.bound(0, 4), 0);
    }

    private static void holds(String test, int want) {
        NearlyShut x = withMachines();
        c.due("a test: " + test, Checks.order(x, 0, 0, "ground if " + test), 0);
        c.due(test, x.bound(0, 4), want);
    }

    private static void tests() {
        holds("1 < 2", 1);
        holds("2 < 2", 0);
        holds("2 <= 2", 1);
        holds("3 <= 2", 0);
        holds("2 = 2", 1);
        holds("2 = 3", 0);
        holds("2 >= 2", 1);
        holds("1 >= 2", 0);
        holds("2 > 1", 1);
        holds("2 > 2", 0);
        holds("1 = 1 or 1 = 1 and 1 = 2", 1);
        holds("[1 = 1 or 1 = 1] and 1 = 2", 0);
        holds("1 = 2 and 1 = 1 or 1 = 1", 1);
        holds("1 = 2 and [1 = 1 or 1 = 1]", 0);
        holds("not 1 = 1 or 1 = 1", 1);
        holds("not [1 = 1 or 1 = 1]", 0);
        holds("not 1 = 2 and 1 = 2", 0);
        holds("not not 1 = 1", 1);
        holds("10 - 3 - 2 = 5", 1);
        holds("10 - 3 + 2 = 9", 1);
        holds("1 - 2 < 0", 1);
        holds("99999 + 99999 = 99999 + 99999", 1);
    }

    private static void is(NearlyShut x, int machine, String value, int want) {
        c.due("order of " + value, Checks.order(x, 0, x.count(0), "force " + value) >= 0, true);
        c.due(value, x.bound(machine, 2), want);
    }

    private static void values() {
        NearlyShut x = withMachines();
        x.clock(30);
        Checks.order(x, 0, 30, "look vent if since = 0; look lamp if since > 2");
        c.due("since 0", x.bound(1, 3), 2);
        x.clock(33);
        c.due("since 3", x.bound(1, 3), 4);
        x.push(1, 40, 0);
        x.turn(1, 0, 0, 4);
        x.turn(1, 1, 0, 3);
        x.fly(1, 28);
        x.stamp(1, 4, 0, 1);
        x.stamp(1, 4, 1, 2);
        x.stamp(1, 7, 1, 2);
        x.stamp(0, 8, 1, 2);
        is(x, 1, "day", 33);
        is(x, 1, "bent", 30);
        is(x, 1, "flights", 28);
        is(x, 1, "wear", 7);
        is(x, 1, "done", 2);
        is(x, 1, "machine", 1);
        is(x, 1, "since", 0);
        NearlyShut y = withMachines();
        y.push(1, 40, 0);
        y.turn(1, 0, 0, 4);
        is(y, 0, "7 + wear", 7);
        is(y, 0, "6 + bent", 6);
        is(y, 0, "5 + flights + done + machine", 5);
    }
}
