/** Part V of the document, sentence by sentence: stamps, what was seen, papers and who knew. */
public final class StampAndPaperEdgesTest {
    private static final Checks c = new Checks();

    public static void main(String[] args) {
        stampsOnADay();
        stampsKnown();
        seen();
        twoOnADay();
        eachStampIsOne();
        seenNotDone();
        seenDone();
        doneAndNot();
        fewest();
        surely();
        surelyByOthers();
        choicesMove();
        theLastStamp();
        noSet();
        papers();
        needs();
        reading();
        knewByAll();
        knewByNow();
        warned();
        c.end("StampAndPaperEdgesTest");
    }

    private static NearlyShut on(int day, int machines) {
        NearlyShut x = new NearlyShut();
        for (int i = 0; i < machines; i++) x.machine();
        x.clock(day);
        return x;
    }

    private static void sure(String what, NearlyShut x, int... want) {
        for (int stamp = 0; stamp < want.length; stamp++) c.due(what + ", STAMP " + stamp, x.sure(stamp), want[stamp]);
    }

    private static void stampsOnADay() {
        c.sentence("STAMPS 0 to 199: of a MACHINE, a TASK, by a MAN, on a DAY not behind NOW");
        NearlyShut x = on(0, 20);
        c.due("the first DAY", x.stamp(19, 9, 15, 0), 0);
        c.due("a DAY behind NOW", x.stamp(19, 9, 15, 1), -1);
        x.clock(9999);
        c.due("the last DAY", x.stamp(0, 0, 0, 9999), 1);
        c.due("behind all DAYS", x.stamp(0, 0, 0, 10000), -1);
        c.due("the first DAY, told late", x.stamp(0, 0, 0, 0), 2);
        c.due("ahead of all DAYS", x.stamp(0, 0, 0, -1), -1);
        for (int i = 3; i < 200; i++) c.due("STAMP " + i, x.stamp(i % 20, i % 10, i % 16, i), i);
        c.due("STAMP 200", x.stamp(0, 0, 0, 0), -1);
        c.due("STAMPS", x.count(5), 200);
        c.due("the last is there", x.sure(199), 0);
        c.due("none behind it", x.sure(200), -1);
        c.sentence("MEN 0 to 15.");
        NearlyShut y = on(0, 1);
        for (int man = 0; man < 16; man++) c.due("MAN " + man, y.stamp(0, 0, man, 0), man);
        c.due("MAN 16", y.stamp(0, 0, 16, 0), -1);
        c.due("MAN -1", y.stamp(0, 0, -1, 0), -1);
        c.due("all of them, one each", y.fewest(), 0);
    }

    private static void stampsKnown() {
        c.sentence("KNOWN from then on, also when it is gone back behind that");
        NearlyShut x = on(2, 1);
        Checks.order(x, 0, 2, "must 6 within 0; look lamp if done = 1");
        x.mark(0);
        x.clock(8);
        c.due("OWED", x.bound(0, 0), 64);
        c.due("a STAMP", x.stamp(0, 6, 1, 7), 0);
        c.due("KNOWN", x.bound(0, 0), 0);
        c.due("gone back", x.back(0), 2);
        c.due("KNOWN still", x.bound(0, 0), 0);
        c.due("done still", x.bound(0, 3), 4);
        c.due("it is there", x.count(5), 1);
        c.due("it is one of its MAN's", x.sure(0), 0);
    }

    private static void seen() {
        c.sentence("SEEN, 100 at most: on a DAY (not behind NOW) a TASK of a MACHINE was seen done or not.");
        NearlyShut x = on(0, 20);
        c.due("a DAY behind NOW", x.see(0, 0, 1, true), -1);
        c.due("the first DAY", x.see(19, 9, 0, false), 1);
        x.clock(9999);
        c.due("the last DAY", x.see(0, 0, 9999, false), 2);
        c.due("behind all DAYS", x.see(0, 0, 10000, true), -1);
        c.due("ahead of all DAYS", x.see(0, 0, -1, true), -1);
        for (int i = 3; i <= 100; i++) c.due("the " + i + "th", x.see(0, 0, 0, false), i);
        c.due("one more", x.see(0, 0, 0, false), -1);
        c.due("one more, done", x.see(0, 0, 0, true), -1);
        c.due("SEEN", x.count(6), 100);
        c.due("what was refused is nothing", x.fewest(), 0);
        NearlyShut y = on(5, 1);
        y.stamp(0, 3, 0, 5);
        for (int i = 1; i < 100; i++) y.see(0, 2, 5, false);
        c.due("not yet", y.fewest(), 0);
        y.see(0, 3, 5, false);
        c.due("the hundredth counts", y.fewest(), 1);
        for (int machine : new int[] {0, 19}) {
            for (int task = 0; task < 10; task += 9) {
                NearlyShut z = on(0, 20);
                z.see(machine, task, 0, true);
                c.due("TASK " + task + " of MACHINE " + machine + " without a STAMP", z.fewest(), -2);
                z.stamp(machine, task, 0, 0);
                c.due("with one", z.sure(0), 1);
            }
        }
    }

    private static void twoOnADay() {
        c.sentence("A MAN does two TASKS on a DAY at most");
        for (int many = 0; many <= 6; many++) {
            NearlyShut x = on(9, 1);
            for (int i = 0; i < many; i++) x.stamp(0, i, 3, 4);
            c.due("FEWEST of " + many, x.fewest(), Math.max(0, many - 2));
            for (int i = 0; i < many; i++) c.due("neither", x.sure(i), 0);
        }
        NearlyShut x = on(9, 1);
        for (int i = 0; i < 4; i++) x.stamp(0, i, i / 2, 4);
        c.due("two of two MEN", x.fewest(), 0);
        x.stamp(0, 4, 0, 5);
        x.stamp(0, 4, 0, 3);
        c.due("on other DAYS", x.fewest(), 0);
        x.stamp(0, 4, 0, 4);
        c.due("a third", x.fewest(), 1);
        x.stamp(0, 5, 1, 4);
        c.due("a third of the other", x.fewest(), 2);
    }

    private static void eachStampIsOne() {
        c.sentence("(each STAMP is one)");
        NearlyShut x = on(9, 2);
        x.stamp(0, 0, 3, 4);
        x.stamp(0, 0, 3, 4);
        c.due("the same twice", x.fewest(), 0);
        x.stamp(0, 0, 3, 4);
        c.due("the same three times", x.fewest(), 1);
        NearlyShut y = on(9, 2);
        y.stamp(0, 0, 3, 4);
        y.stamp(1, 0, 3, 4);
        y.stamp(0, 1, 3, 4);
        c.due("of two MACHINES", y.fewest(), 1);
        NearlyShut z = on(9, 1);
        for (int i = 0; i < 200; i++) z.stamp(0, 0, 0, 0);
        c.due("all 200 on one DAY", z.fewest(), 198);
        c.due("neither", z.sure(199), 0);
    }

    private static void seenNotDone() {
        c.sentence("each TASK seen not done on a DAY has no other STAMP of that DAY or ahead of it");
        NearlyShut x = on(9, 2);
        for (int day = 3; day <= 6; day++) x.stamp(0, 1, 0, day);
        x.stamp(0, 2, 1, 3);
        x.stamp(1, 1, 1, 4);
        x.see(0, 1, 2, false);
        c.due("ahead of all", x.fewest(), 0);
        x.see(0, 1, 3, false);
        c.due("on the DAY of the first", x.fewest(), 1);
        sure("that one is false", x, 2, 0, 0, 0, 0, 0);
        x.see(0, 1, 5, false);
        c.due("the later one counts", x.fewest(), 3);
        x.see(0, 1, 4, false);
        c.due("an earlier one adds nothing", x.fewest(), 3);
        sure("all up to that DAY", x, 2, 2, 2, 0, 0, 0);
        NearlyShut y = on(9, 1);
        y.see(0, 1, 9, false);
        c.due("seen, and no STAMP at all", y.fewest(), 0);
        y.stamp(0, 1, 0, 9);
        c.due("a STAMP told behind it", y.fewest(), 1);
    }

    private static void seenDone() {
        c.sentence("and each that was seen done on a DAY has one of that DAY or ahead of it");
        NearlyShut x = on(9, 2);
        x.stamp(0, 1, 0, 5);
        x.see(0, 1, 6, true);
        c.due("behind it", x.sure(0), 1);
        x.see(0, 1, 5, true);
        c.due("on its DAY", x.sure(0), 1);
        x.see(0, 1, 4, true);
        c.due("ahead of it", x.fewest(), -2);
        c.due("no set", x.sure(0), -2);
        x.stamp(0, 1, 3, 4);
        sure("another STAMP", x, 0, 1);
        NearlyShut y = on(9, 2);
        y.see(0, 1, 9, true);
        c.due("no STAMP at all", y.fewest(), -2);
        y.stamp(1, 1, 0, 9);
        y.stamp(0, 2, 0, 9);
        c.due("of others", y.fewest(), -2);
        y.stamp(0, 1, 15, 9);
        c.due("its own", y.fewest(), 0);
        c.due("surely", y.sure(2), 1);
        c.sentence("all that is done stays done, and is done on a DAY of one of its STAMPS");
        NearlyShut z = on(9, 1);
        z.stamp(0, 0, 0, 2);
        z.stamp(0, 0, 1, 6);
        z.see(0, 0, 2, true);
        z.see(0, 0, 9, true);
        sure("done on 2, it is done on 9", z, 1, 0);
    }

    private static void doneAndNot() {
        c.sentence("all that is done stays done");
        for (int done = 2; done <= 6; done++) {
            for (int not = 2; not <= 6; not++) {
                NearlyShut x = on(9, 1);
                for (int day = 2; day <= 6; day++) x.stamp(0, 0, day, day);
                x.see(0, 0, done, true);
                x.see(0, 0, not, false);
                boolean can = not < done;
                c.due("done on " + done + ", not on " + not, x.fewest(), can ? not - 1 : -2);
                for (int day = 2; day <= 6; day++) {
                    int want = !can ? -2 : day <= not ? 2 : day <= done && done == not + 1 ? 1 : 0;
                    c.due("done on " + done + ", not on " + not + ", STAMP of " + day, x.sure(day - 2), want);
                }
            }
        }
    }

    private static void fewest() {
        c.sentence("FEWEST: how many STAMPS are FALSE at least.");
        c.due("no STAMPS", on(0, 0).fewest(), 0);
        NearlyShut x = on(9, 1);
        // a man's four, of which two are surely false; the two others are not too many
        for (int task = 0; task < 4; task++) x.stamp(0, task, 0, 4);
        x.see(0, 0, 4, false);
        x.see(0, 1, 4, false);
        c.due("two that are false anyway", x.fewest(), 2);
        x.stamp(0, 4, 0, 4);
        c.due("a third one among the others", x.fewest(), 3);
        x.see(0, 4, 5, true);
        c.due("that was done", x.fewest(), 3);
        sure("it was, and one of two others at most", x, 2, 2, 0, 0, 1);
        x.see(0, 3, 5, true);
        sure("both places are taken", x, 2, 2, 2, 1, 1);
        x.see(0, 2, 5, true);
        c.due("three on one DAY", x.fewest(), -2);
    }

    private static void surely() {
        c.sentence("A STAMP is SURELY FALSE, if it is in all sets that CAN BE; SURELY TRUE, if in none.");
        NearlyShut x = on(9, 1);
        x.stamp(0, 0, 0, 3);
        c.due("alone it may be either", x.sure(0), 0);
        c.due("STAMP 1", x.sure(1), -1);
        c.due("STAMP -1", x.sure(-1), -1);
        x.see(0, 0, 3, true);
        c.due("true", x.sure(0), 1);
        x.stamp(0, 0, 1, 3);
        sure("one of two", x, 0, 0);
        x.stamp(0, 0, 1, 4);
        sure("a later one is nothing to it", x, 0, 0, 0);
        NearlyShut y = on(9, 1);
        y.stamp(0, 0, 0, 3);
        y.see(0, 0, 3, false);
        c.due("false", y.sure(0), 2);
        NearlyShut z = on(9, 1);
        for (int i = 0; i < 3; i++) z.stamp(0, i, 0, 3);
        z.see(0, 0, 3, true);
        sure("one of three is true, one of two others false", z, 1, 0, 0);
        z.see(0, 1, 3, true);
        sure("both are true, the third is false", z, 1, 1, 2);
        z.stamp(0, 1, 5, 3);
        sure("another could have done one", z, 1, 0, 0, 0);
    }

    private static void surelyByOthers() {
        c.sentence("A set of STAMPS that are FALSE CAN BE, if no MAN has more than two others on one DAY");
        // a ring: works 0, 1, 2 each have a stamp of man w and of man w + 1; each man has one work more of his own
        NearlyShut x = on(9, 1);
        for (int work = 0; work < 3; work++) {
            x.stamp(0, work, work, 4);
            x.stamp(0, work, (work + 1) % 3, 4);
            x.stamp(0, 3 + work, work, 4);
        }
        for (int work = 0; work < 6; work++) x.see(0, work, 4, true);
        sure("a ring goes round one way or the other", x, 0, 0, 1, 0, 0, 1, 0, 0, 1);
        c.due("FEWEST", x.fewest(), 3);
        // one more work of man 0 alone: work 0 must go to man 1, so 1 to man 2, so 2 to man 0, who is full
        x.stamp(0, 6, 0, 4);
        x.see(0, 6, 4, true);
        c.due("too much", x.fewest(), -2);
        // a stamp elsewhere opens the ring
        x.stamp(0, 2, 9, 4);
        c.due("opened", x.fewest(), 4);
        sure("one way", x, 2, 1, 1, 2, 1, 1, 2, 2, 1, 1, 1);
    }

    /** Works 0 to 4: P, Q, X, Y, W; men 0 (A), 1 (B), 2 (C): to make room for W, X goes from A to B and P from B to C. */
    private static void choicesMove() {
        c.sentence("A set of STAMPS that are FALSE CAN BE, if no MAN has more than two others on one DAY");
        NearlyShut x = on(9, 1);
        int[][] stamps = {{2, 0}, {0, 2}, {0, 1}, {1, 1}, {2, 1}, {3, 0}, {4, 0}};
        for (int[] s : stamps) x.stamp(0, s[0], s[1], 4);
        for (int task = 0; task < 5; task++) {
            x.see(0, task, 4, true);
            c.due("up to TASK " + task, x.fewest(), 2);
        }
        sure("all but two are true", x, 2, 1, 2, 1, 1, 1, 1);
        x.stamp(0, 5, 2, 4);
        x.see(0, 5, 4, true);
        c.due("C has room for one more", x.fewest(), 2);
        x.stamp(0, 6, 1, 4);
        x.see(0, 6, 4, true);
        c.due("B has none", x.fewest(), -2);
        // X, Y, U, V, W, Z and A, B, C, D: for W X goes from A to B, then for Z W goes on to C and U from C to D
        NearlyShut z = on(9, 1);
        int[][] twice = {{0, 1}, {0, 0}, {1, 0}, {2, 3}, {2, 2}, {3, 2}, {4, 2}, {4, 0}, {5, 0}};
        for (int[] s : twice) z.stamp(0, s[0], s[1], 4);
        for (int task = 0; task < 6; task++) z.see(0, task, 4, true);
        c.due("room is made twice", z.fewest(), 3);
        sure("one way is left", z, 1, 2, 1, 1, 2, 1, 1, 2, 1);
        // what was found before counts no more: at first Y was by A, then three others are by A alone
        NearlyShut y = on(9, 1);
        y.stamp(0, 3, 1, 4);
        y.stamp(0, 3, 0, 4);
        for (int task = 0; task < 3; task++) y.stamp(0, task, 0, 4);
        y.see(0, 3, 4, true);
        c.due("Y by A or B", y.fewest(), 2);
        for (int task = 0; task < 3; task++) {
            y.see(0, task, 4, true);
            c.due("others by A alone, " + task, y.fewest(), task < 2 ? 2 : -2);
        }
    }

    private static void theLastStamp() {
        c.sentence("A STAMP is SURELY FALSE, if it is in all sets that CAN BE; SURELY TRUE, if in none.");
        NearlyShut x = on(200, 2);
        for (int i = 0; i < 197; i++) x.stamp(1, 0, 0, i);
        for (int task = 0; task < 3; task++) x.stamp(0, task, 0, 199);
        x.see(0, 0, 199, true);
        c.due("neither", x.sure(199), 0);
        x.see(0, 1, 199, true);
        c.due("there is no room for the last", x.sure(199), 2);
        c.due("the one ahead of it", x.sure(198), 1);
        c.due("the first", x.sure(0), 0);
        x.see(1, 0, 0, true);
        c.due("the first, seen done", x.sure(0), 1);
        c.due("the last still", x.sure(199), 2);
        // all 200 of one TASK: the one that it was done by is the first told, or the last
        for (int told = 0; told < 200; told += 199) {
            NearlyShut y = on(1, 1);
            for (int i = 0; i < 200; i++) y.stamp(0, 0, i % 16, i == told ? 0 : 1);
            y.see(0, 0, 0, true);
            c.due("STAMP " + told + " of all 200", y.sure(told), 1);
            c.due("one in the midst", y.sure(100), 0);
            c.due("that one, and two of each MAN", y.fewest(), 199 - 32);
        }
    }

    private static void noSet() {
        c.sentence("(No set at all: told so.)");
        NearlyShut x = on(9, 1);
        x.stamp(0, 0, 0, 3);
        x.see(0, 1, 3, true);
        c.due("FEWEST", x.fewest(), -2);
        c.due("sure", x.sure(0), -2);
        c.due("without it", x.sure(1), -1);
        c.due("without it, below", x.sure(-1), -1);
        x.stamp(0, 1, 0, 3);
        c.due("a set again", x.fewest(), 0);
        c.sentence("FEWEST; -2: no set CAN BE.");
        NearlyShut y = on(0, 1);
        c.due("nothing at all", y.fewest(), 0);
        y.see(0, 0, 0, false);
        c.due("nothing was done", y.fewest(), 0);
        y.see(0, 0, 0, true);
        c.due("done and not on one DAY", y.fewest(), -2);
        y.stamp(0, 0, 0, 0);
        c.due("with a STAMP, too", y.fewest(), -2);
        c.sentence("Of a STAMP: 1 SURELY TRUE, 2 SURELY FALSE");
        NearlyShut z = on(0, 1);
        for (int task = 0; task < 3; task++) z.stamp(0, task, task, 0);
        z.see(0, 0, 0, true);
        z.see(0, 1, 0, false);
        sure("true, false, neither", z, 1, 2, 0, -1);
    }

    private static void papers() {
        c.sentence("PAPERS 0 to 29: each names a MACHINE or none (NONE), of a DAY (not behind NOW)");
        NearlyShut x = on(7, 20);
        c.due("none", x.paper(-1, 0, 0), 0);
        c.due("the first MACHINE", x.paper(0, 0, 0), 1);
        c.due("the last MACHINE", x.paper(19, 7, 0), 2);
        c.due("MACHINE 20", x.paper(20, 7, 0), -1);
        c.due("MACHINE -2", x.paper(-2, 7, 0), -1);
        c.due("a DAY behind NOW", x.paper(0, 8, 0), -1);
        c.due("a DAY below 0", x.paper(0, -1, 0), -1);
        x.clock(9999);
        c.due("the last DAY", x.paper(0, 9999, 0), 3);
        c.due("behind it", x.paper(0, 10000, 0), -1);
        for (int i = 4; i < 30; i++) c.due("PAPER " + i, x.paper(0, 0, 0), i);
        c.due("PAPER 30", x.paper(0, 0, 0), -1);
        c.due("PAPERS", x.count(7), 30);
        c.due("the last is read", x.read(0, 29, 0), true);
        c.due("none behind it", x.read(0, 30, 0), false);
    }

    private static void needs() {
        c.sentence("and PAPERS told ahead that one must have read to understand it (bits)");
        NearlyShut x = on(5, 1);
        for (int i = 0; i < 30; i++) {
            int all = (1 << i) - 1;
            c.due("PAPER " + i + " needs itself", x.paper(0, 0, 1 << i), -1);
            c.due("PAPER " + i + " needs one to come", x.paper(0, 0, 1 << i + 1), -1);
            c.due("PAPER " + i + " needs below 0", x.paper(0, 0, -1), -1);
            c.due("PAPER " + i + " needs all and bit 31", x.paper(0, 0, all | 1 << 31), -1);
            c.due("PAPER " + i + " needs all ahead of it", x.paper(0, 0, all), i);
        }
        for (int i = 29; i > 0; i--) x.read(4, i, 1);
        c.due("all but the first are read", x.knew(4, 29), -2);
        x.read(4, 0, 5);
        for (int i = 0; i < 30; i++) c.due("KNEW of " + i, x.knew(4, i), 5);
    }

    private static void reading() {
        c.sentence("READ: a MAN reads a PAPER on a DAY (not ahead of the PAPER's, not behind NOW).");
        NearlyShut x = on(9, 1);
        x.paper(0, 5, 0);
        c.due("ahead of the PAPER's", x.read(0, 0, 4), false);
        c.due("not known by that", x.knew(0, 0), -2);
        c.due("on the PAPER's", x.read(0, 0, 5), true);
        c.due("NOW", x.read(1, 0, 9), true);
        c.due("behind NOW", x.read(2, 0, 10), false);
        for (int man = 0; man < 16; man++) c.due("MAN " + man, x.read(man, 0, 9), true);
        NearlyShut last = on(9, 1);
        for (int i = 0; i < 30; i++) last.paper(0, 0, 0);
        for (int man = 0; man < 16; man += 15) {
            for (int paper = 0; paper < 30; paper += 29) {
                c.due("MAN " + man + ", PAPER " + paper, last.read(man, paper, man + paper > 9 ? 9 : 3), true);
                c.due("MAN " + man + " KNEW of PAPER " + paper, last.knew(man, paper), man + paper > 9 ? 9 : 3);
                c.due("he alone", last.knew(7, paper), -2);
                c.due("of that alone", last.knew(man, 7), -2);
            }
        }
        c.due("MAN 16", x.read(16, 0, 9), false);
        c.due("MAN -1", x.read(-1, 0, 9), false);
        c.due("PAPER 1", x.read(0, 1, 9), false);
        c.due("PAPER -1", x.read(0, -1, 9), false);
        c.sentence("(an earlier DAY than told before counts; a later one changes nothing)");
        c.due("5 it was", x.knew(0, 0), 5);
        c.due("a later one", x.read(0, 0, 7), true);
        c.due("5 still", x.knew(0, 0), 5);
        c.due("9 it was", x.knew(1, 0), 9);
        c.due("an earlier one", x.read(1, 0, 8), true);
        c.due("8", x.knew(1, 0), 8);
        c.due("the same", x.read(1, 0, 8), true);
        c.due("8 still", x.knew(1, 0), 8);
        c.due("the earliest", x.read(1, 0, 5), true);
        c.due("5", x.knew(1, 0), 5);
    }

    private static void knewByAll() {
        c.sentence("He KNEW of a PAPER on a DAY: he read it by then, and KNEW by then of all that it needs.");
        NearlyShut x = on(20, 1);
        x.paper(-1, 0, 0);
        x.paper(-1, 0, 0);
        x.paper(-1, 0, 1);
        x.paper(0, 0, 2 + 4);
        x.read(3, 3, 1);
        x.read(3, 2, 2);
        x.read(3, 1, 6);
        c.due("one of all is not known", x.knew(3, 3), -2);
        c.due("another is", x.knew(3, 1), 6);
        c.due("what needs that one is not", x.knew(3, 2), -2);
        x.read(3, 0, 9);
        c.due("by then of all", x.knew(3, 3), 9);
        c.due("through one between", x.knew(3, 2), 9);
        x.read(3, 0, 0);
        c.due("the latest of the others", x.knew(3, 3), 6);
        c.due("of the one between", x.knew(3, 2), 2);
        x.read(3, 1, 0);
        c.due("the latest again", x.knew(3, 3), 2);
        x.read(3, 2, 0);
        c.due("its own", x.knew(3, 3), 1);
        c.due("another MAN", x.knew(2, 3), -2);
        // read by one man is not read by another
        x.read(2, 3, 5);
        c.due("he lacks what it needs", x.knew(2, 3), -2);
    }

    private static void knewByNow() {
        c.sentence("The DAY from which a MAN KNEW of a PAPER; -2: he did not by NOW; NONE without these.");
        NearlyShut x = on(3, 1);
        x.paper(0, 0, 0);
        x.mark(0);
        x.clock(8);
        x.read(0, 0, 4);
        x.read(1, 0, 3);
        c.due("on 8: from 4", x.knew(0, 0), 4);
        x.back(0);
        c.due("on 3: not yet", x.knew(0, 0), -2);
        c.due("on 3: from 3", x.knew(1, 0), 3);
        x.clock(4);
        c.due("on 4: from 4", x.knew(0, 0), 4);
        c.due("MAN 15", x.knew(15, 0), -2);
        c.due("MAN 16", x.knew(16, 0), -1);
        c.due("MAN -1", x.knew(-1, 0), -1);
        c.due("PAPER 1", x.knew(0, 1), -1);
        c.due("PAPER -1", x.knew(0, -1), -1);
        NearlyShut y = on(0, 1);
        y.paper(0, 0, 0);
        y.read(0, 0, 0);
        c.due("on the first DAY", y.knew(0, 0), 0);
        NearlyShut z = on(9999, 1);
        z.paper(0, 9999, 0);
        z.read(0, 0, 9999);
        c.due("on the last DAY", z.knew(0, 0), 9999);
        c.due("not by another", z.knew(1, 0), -2);
    }

    private static void warned() {
        c.sentence("WARNED of a MACHINE on a DAY: MEN who KNEW by then of a PAPER that names it.");
        NearlyShut x = on(9, 20);
        c.due("no PAPERS", x.warned(0, 9), 0);
        x.paper(19, 0, 0);
        x.paper(-1, 0, 0);
        x.paper(19, 0, 2);
        for (int man = 0; man < 16; man++) {
            x.read(man, 0, 5);
            c.due("MEN up to " + man, x.warned(19, 5), (2 << man) - 1);
        }
        c.due("the DAY ahead", x.warned(19, 4), 0);
        c.due("the first DAY", x.warned(19, 0), 0);
        c.due("the last DAY", x.warned(19, 9999), 65535);
        c.due("another MACHINE", x.warned(18, 9), 0);
        x.read(7, 2, 3);
        c.due("read and not understood", x.warned(19, 4), 0);
        x.read(7, 1, 4);
        c.due("understood on 4", x.warned(19, 4), 1 << 7);
        c.due("not on 3", x.warned(19, 3), 0);
        c.due("a PAPER of none warns of none", x.warned(-1, 9), -1);
        c.due("MACHINE 20", x.warned(20, 9), -1);
        c.due("a DAY below 0", x.warned(19, -1), -1);
        c.due("a DAY beyond", x.warned(19, 10000), -1);
        NearlyShut y = on(0, 1);
        y.paper(0, 0, 0);
        y.read(15, 0, 0);
        c.due("on the first DAY", y.warned(0, 0), 1 << 15);
        // every paper counts, the last too
        NearlyShut z = on(3, 2);
        for (int i = 0; i < 30; i++) z.paper(i == 29 ? 1 : 0, 1, 0);
        z.read(2, 29, 3);
        c.due("by the last PAPER", z.warned(1, 3), 4);
        c.due("of the other by none", z.warned(0, 3), 0);
    }
}
