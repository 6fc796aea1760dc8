import java.util.ArrayList;
import java.util.List;
import java.util.Random;

/** Promises 21 to 28: stamps, what was seen, papers and who knew. */
public final class StampsAndPapersTest {
    private static final Checks c = new Checks();

    public static void main(String[] args) {
        stamp();
        see();
        fewest();
        sure();
        choicesMove();
        againstAllSets();
        manyStamps();
        paper();
        read();
        knew();
        warned();
        c.end("StampsAndPapersTest");
    }

    private static NearlyShut on(int day, int machines) {
        NearlyShut x = new NearlyShut();
        for (int i = 0; i < machines; i++) x.machine();
        x.clock(day);
        return x;
    }

    private static void stamp() {
        NearlyShut x = on(5, 2);
        c.due("edges", x.stamp(1, 9, 15, 5), 0);
        c.due("lower edges", x.stamp(0, 0, 0, 0), 1);
        c.due("machine 2", x.stamp(2, 0, 0, 0), -1);
        c.due("machine -1", x.stamp(-1, 0, 0, 0), -1);
        c.due("task 10", x.stamp(0, 10, 0, 0), -1);
        c.due("task -1", x.stamp(0, -1, 0, 0), -1);
        c.due("man 16", x.stamp(0, 0, 16, 0), -1);
        c.due("man -1", x.stamp(0, 0, -1, 0), -1);
        c.due("a later day", x.stamp(0, 0, 0, 6), -1);
        c.due("day -1", x.stamp(0, 0, 0, -1), -1);
        c.due("STAMPS", x.count(5), 2);
        for (int i = 2; i < 200; i++) c.due("stamp " + i, x.stamp(i % 2, i % 10, i % 16, i % 5), i);
        c.due("a 201st", x.stamp(0, 0, 0, 0), -1);
        c.due("200", x.count(5), 200);
    }

    private static void see() {
        NearlyShut x = on(5, 2);
        c.due("edges", x.see(1, 9, 5, true), 1);
        c.due("lower edges", x.see(0, 0, 0, false), 2);
        c.due("machine 2", x.see(2, 0, 0, true), -1);
        c.due("machine -1", x.see(-1, 0, 0, true), -1);
        c.due("task 10", x.see(0, 10, 0, true), -1);
        c.due("task -1", x.see(0, -1, 0, true), -1);
        c.due("a later day", x.see(0, 0, 6, true), -1);
        c.due("day -1", x.see(0, 0, -1, true), -1);
        for (int i = 3; i <= 100; i++) c.due("see " + i, x.see(0, 0, 0, false), i);
        c.due("a 101st", x.see(0, 0, 0, false), -1);
        c.due("100", x.count(6), 100);
    }

    private static void fewest() {
        NearlyShut x = on(9, 2);
        c.due("none", x.fewest(), 0);
        for (int i = 0; i < 5; i++) x.stamp(0, 0, 3, 4);
        c.due("five of a man on a day", x.fewest(), 3);
        x.stamp(0, 0, 3, 5);
        x.stamp(0, 0, 4, 4);
        c.due("other days and men", x.fewest(), 3);
        x.see(0, 0, 4, false);
        c.due("not done on that day", x.fewest(), 6);
        x.see(1, 0, 9, false);
        c.due("of another machine", x.fewest(), 6);
        x.see(0, 0, 5, true);
        c.due("done on the day behind", x.fewest(), 6);
        x.see(0, 0, 5, false);
        c.due("done and not", x.fewest(), -2);
    }

    private static void sure() {
        NearlyShut x = on(9, 1);
        x.stamp(0, 0, 0, 3);
        x.stamp(0, 0, 1, 5);
        c.due("neither", x.sure(0), 0);
        c.due("stamp 2", x.sure(2), -1);
        c.due("stamp -1", x.sure(-1), -1);
        x.see(0, 0, 7, true);
        c.due("one of two", x.sure(0), 0);
        c.due("one of two", x.sure(1), 0);
        x.see(0, 0, 4, true);
        c.due("the earlier surely", x.sure(0), 1);
        c.due("the later either way", x.sure(1), 0);
        NearlyShut y = on(9, 1);
        y.stamp(0, 0, 0, 3);
        y.stamp(0, 0, 1, 5);
        y.see(0, 0, 3, false);
        c.due("surely false", y.sure(0), 2);
        c.due("behind it: neither", y.sure(1), 0);
        y.see(0, 0, 6, true);
        c.due("surely true", y.sure(1), 1);
        y.see(0, 1, 6, true);
        c.due("no set", y.sure(1), -2);
        c.due("without it", y.sure(2), -1);
    }

    /** Man 0 is full by tasks 0 and 1; task 2 has him alone, so one of them must move. */
    private static void choicesMove() {
        NearlyShut x = on(9, 1);
        x.stamp(0, 0, 1, 2);
        x.stamp(0, 0, 0, 2);
        x.stamp(0, 1, 0, 2);
        x.stamp(0, 2, 0, 2);
        for (int task = 0; task < 3; task++) x.see(0, task, 2, true);
        c.due("can be", x.fewest(), 1);
        c.due("man 1 did task 0", x.sure(0), 1);
        c.due("man 0 did not", x.sure(1), 2);
        c.due("he did task 1", x.sure(2), 1);
        c.due("and task 2", x.sure(3), 1);
        x.stamp(0, 3, 0, 2);
        x.see(0, 3, 3, true);
        c.due("three of one man", x.fewest(), -2);
    }

    /** Tight places, where choices must move through several men, against all sets there are. */
    private static void againstAllSets() {
        Random random = new Random(77);
        int[] answers = new int[4];
        for (int run = 0; run < 700; run++) {
            NearlyShut x = on(4, 2);
            Model m = new Model();
            m.machine();
            m.machine();
            m.clock(4);
            int stamps = 4 + random.nextInt(9), men = 1 + random.nextInt(3), days = 1 + random.nextInt(3);
            for (int i = 0; i < stamps; i++) {
                int machine = random.nextInt(2), task = random.nextInt(4), man = random.nextInt(men), day = random.nextInt(days);
                x.stamp(machine, task, man, day);
                m.stamp(machine, task, man, day);
            }
            for (int i = random.nextInt(8); i > 0; i--) {
                Model.Stamp s = m.stamps.get(random.nextInt(stamps));
                boolean done = random.nextInt(6) != 0;
                int day = done ? s.day + random.nextInt(2) : s.day - 1;
                x.see(s.machine, s.task, day, done);
                m.see(s.machine, s.task, day, done);
            }
            List<Integer> sets = m.sets();
            c.due("fewest of run " + run, x.fewest(), m.fewest());
            for (int i = 0; i < stamps; i++) {
                int got = x.sure(i), bit = 1 << i;
                int in = (int) sets.stream().filter(s -> (s & bit) != 0).count();
                int want = sets.isEmpty() ? -2 : in == 0 ? 1 : in == sets.size() ? 2 : 0;
                c.due("sure " + i + " of run " + run, got, want);
                answers[got == -2 ? 3 : got]++;
            }
        }
        for (int i = 0; i < 4; i++) c.due("each answer came often, " + i, answers[i] > 150, true);
    }

    /** A chain of men through which one choice after another must move. */
    private static void manyStamps() {
        NearlyShut x = on(9, 10);
        // work w may be done in turn w / 2 or in the next; the last turn has a work of its own twice
        List<int[]> works = new ArrayList<>();
        for (int w = 0; w < 80; w++) works.add(new int[] {w / 10, w % 10, w / 2});
        for (int[] w : works) {
            x.stamp(w[0], w[1], (w[2] + 1) % 16, (w[2] + 1) / 16);
            x.stamp(w[0], w[1], w[2] % 16, w[2] / 16);
        }
        for (int[] w : works) x.see(w[0], w[1], 9, true);
        c.due("room for all", x.fewest(), 160 - 2 * 41);
        c.due("neither", x.sure(0), 0);
        x.stamp(9, 0, 40 % 16, 40 / 16);
        x.stamp(9, 1, 40 % 16, 40 / 16);
        x.see(9, 0, 9, true);
        c.due("one more, neither", x.sure(0), 0);
        x.see(9, 1, 9, true);
        c.due("all are full", x.fewest(), 162 - 82);
        c.due("the later turn surely not", x.sure(0), 2);
        c.due("the own turn surely", x.sure(1), 1);
        c.due("the last", x.sure(161), 1);
        x.stamp(9, 2, 0, 0);
        x.see(9, 2, 9, true);
        c.due("one too many", x.fewest(), -2);
        c.due("one too many", x.sure(5), -2);
    }

    private static void paper() {
        NearlyShut x = on(5, 1);
        c.due("paper", x.paper(0, 5, 0), 0);
        c.due("of none", x.paper(-1, 0, 1), 1);
        c.due("machine 1", x.paper(1, 0, 0), -1);
        c.due("machine -2", x.paper(-2, 0, 0), -1);
        c.due("a later day", x.paper(0, 6, 0), -1);
        c.due("day -1", x.paper(0, -1, 0), -1);
        c.due("needs itself", x.paper(0, 0, 4), -1);
        c.due("needs below 0", x.paper(0, 0, -1), -1);
        c.due("needs the least number", x.paper(0, 0, 1 << 31), -1);
        c.due("needs both", x.paper(0, 0, 3), 2);
        for (int i = 3; i < 30; i++) c.due("paper " + i, x.paper(0, 0, (1 << i) - 1), i);
        c.due("a 31st", x.paper(0, 0, 0), -1);
        c.due("PAPERS", x.count(7), 30);
    }

    private static void read() {
        NearlyShut x = on(9, 1);
        x.paper(0, 5, 0);
        c.due("ahead of its day", x.read(0, 0, 4), false);
        c.due("on its day", x.read(0, 0, 5), true);
        c.due("now", x.read(1, 0, 9), true);
        c.due("behind now", x.read(2, 0, 10), false);
        c.due("man 16", x.read(16, 0, 5), false);
        c.due("man -1", x.read(-1, 0, 5), false);
        c.due("paper 1", x.read(0, 1, 5), false);
        c.due("paper -1", x.read(0, -1, 5), false);
        c.due("later changes nothing", x.read(0, 0, 8), true);
        c.due("from 5", x.knew(0, 0), 5);
        c.due("earlier counts", x.read(1, 0, 7), true);
        c.due("from 7", x.knew(1, 0), 7);
        c.due("did not", x.knew(2, 0), -2);
    }

    private static void knew() {
        NearlyShut x = on(9, 1);
        x.paper(0, 0, 0);
        x.paper(-1, 0, 1);
        x.paper(0, 0, 2);
        x.paper(0, 0, 0);
        x.read(0, 2, 3);
        c.due("not understood", x.knew(0, 2), -2);
        x.read(0, 1, 5);
        c.due("nor yet", x.knew(0, 2), -2);
        x.read(0, 0, 4);
        c.due("by what it needs", x.knew(0, 2), 5);
        c.due("the one between", x.knew(0, 1), 5);
        c.due("the first", x.knew(0, 0), 4);
        x.read(0, 0, 7);
        c.due("as before", x.knew(0, 2), 5);
        x.read(0, 1, 0);
        c.due("by what that needs", x.knew(0, 2), 4);
        c.due("another man", x.knew(1, 2), -2);
        c.due("another paper", x.knew(0, 3), -2);
        c.due("man 16", x.knew(16, 0), -1);
        c.due("man -1", x.knew(-1, 0), -1);
        c.due("paper 4", x.knew(0, 4), -1);
        c.due("paper -1", x.knew(0, -1), -1);
    }

    private static void warned() {
        NearlyShut x = on(9, 2);
        x.paper(0, 0, 0);
        x.paper(1, 0, 1);
        x.paper(-1, 0, 0);
        x.read(0, 0, 3);
        x.read(15, 0, 5);
        x.read(15, 1, 2);
        x.read(4, 1, 1);
        x.read(5, 2, 1);
        c.due("day 2", x.warned(0, 2), 0);
        c.due("day 3", x.warned(0, 3), 1);
        c.due("day 5", x.warned(0, 5), 1 | 1 << 15);
        c.due("of 1 on day 4", x.warned(1, 4), 0);
        c.due("of 1 on day 5", x.warned(1, 5), 1 << 15);
        c.due("a later day", x.warned(1, 9999), 1 << 15);
        c.due("machine 2", x.warned(2, 0), -1);
        c.due("none", x.warned(-1, 0), -1);
        c.due("day -1", x.warned(0, -1), -1);
        c.due("day 10000", x.warned(0, 10000), -1);
    }
}
