import java.util.Random;

/** Drawings that nearly shut, with changes that nearly mend them, against the slow Model. */
public final class RandomDoorsTest {
    private static final Checks c = new Checks();
    private static final Random random = new Random(1974);

    private static int n(int least, int most) { return least + random.nextInt(most - least + 1); }

    public static void main(String[] args) {
        int[] sets = new int[4];
        int held = 0;
        for (int run = 0; run < 2000; run++) {
            NearlyShut x = new NearlyShut();
            Model m = new Model();
            draw(x, m);
            int parts = m.parts.size(), force = n(0, 40);
            for (int i = 0; i < 4; i++) {
                int travel = n(30, 200);
                c.due("push in run " + run, x.push(0, travel, force), m.push(0, travel, force));
                c.due("goes in run " + run, x.goes(0, 1, i + 1), m.goes(0, 1, i + 1));
                held += m.goes(0, 1, i + 1) > 0 ? 1 : 0;
                for (int p = 0; p < parts; p++) {
                    for (int what = 0; what < 5; what++) {
                        c.due("state in run " + run, x.state(0, p, what), m.state(0, p, what));
                    }
                }
                int a = n(0, parts - 1), b = (a + n(1, parts - 1)) % parts, looked = n(0, 15), most = n(0, 4);
                c.due("tried in run " + run, x.tried(0, a, b, most, force, looked, -1), m.tried(0, a, b, most, force, looked, -1));
                int want = m.cheapest(0, a, b, most, force, looked);
                c.due("cheapest in run " + run, x.cheapest(0, a, b, most, force, looked), want);
                sets[want == -2 ? 0 : want == 0 ? 1 : Integer.bitCount(want) == 1 ? 2 : 3]++;
            }
        }
        for (int i = 0; i < 4; i++) c.due("kinds of sets came often, " + i + ": " + sets[i], sets[i] > 30, true);
        c.due("doors held often: " + held, held > 100, true);
        c.end("RandomDoorsTest");
    }

    /** Hooks reach about 40 to 60; their marks lie there. */
    private static void draw(NearlyShut x, Model m) {
        part(x, m, 0, -1, 0, 11, n(60, 120), 0, n(20, 80));
        for (int i = n(2, 6); i > 0; i--) {
            int driver = n(0, m.parts.size() - 1);
            if (m.parts.get(driver).kind > 2) driver = 0;
            int kind = i == 1 ? 2 : n(1, 5);
            if (kind == 5 && m.parts.get(driver).kind != 2) kind = 1;
            part(x, m, kind, driver, n(0, 8), new int[] {11, 11, 12, 32, 98}[n(0, 4)], n(30, 90), n(0, 60), n(10, 50));
        }
        x.machine();
        m.machine();
        for (int p = 0; p < m.parts.size(); p++) {
            int wear = n(0, 6), set = n(-5, 5);
            x.turn(0, p, 0, wear);
            m.turn(0, p, 0, wear);
            x.turn(0, p, 1, set);
            m.turn(0, p, 1, set);
        }
        for (int i = n(3, 6); i > 0; i--) {
            int p = n(0, m.parts.size() - 1), gap = n(0, 5), mark = n(-14, 9), strength = n(0, 40), coins = n(0, 4);
            c.due("change", x.change(p, gap, mark, strength, coins), m.change(p, gap, mark, strength, coins));
        }
    }

    private static void part(NearlyShut x, Model m, int kind, int driver, int gap, int share, int... rest) {
        c.due("part", x.part(kind, driver, gap, share, rest[0], rest[1], rest[2]),
            m.part(kind, driver, gap, share, rest[0], rest[1], rest[2]));
    }
}
