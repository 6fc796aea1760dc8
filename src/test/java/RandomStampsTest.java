import java.util.ArrayList;
import java.util.List;
import java.util.Random;

/**
 * As many stamps as there can be, too many for Model's sets: held against a slow search that moves
 * stamps between the two places of each man's day, one by one.
 */
public final class RandomStampsTest {
    private static final Checks c = new Checks();

    private final Random random;
    private final NearlyShut x = new NearlyShut();
    private final List<int[]> stamps = new ArrayList<>();
    private final List<int[]> seen = new ArrayList<>();

    private RandomStampsTest(int seed) {
        random = new Random(seed);
    }

    public static void main(String[] args) {
        int[] answers = new int[4];
        for (int seed = 0; seed < 300; seed++) new RandomStampsTest(seed).run(seed, answers);
        for (int i = 0; i < 4; i++) c.due("answers of each kind came often, " + i + ": " + answers[i], answers[i] > 100, true);
        c.end("RandomStampsTest");
    }

    private int n(int least, int most) { return least + random.nextInt(most - least + 1); }

    private void run(int seed, int[] answers) {
        int machines = n(1, 20), men = n(1, 16), days = n(1, 12), many = n(20, 200);
        for (int i = 0; i < machines; i++) x.machine();
        x.clock(days);
        tellStamps(machines, men, days, many);
        tellSeen(n(0, 100), random.nextInt(4) == 0);
        boolean can = canBe(-1, -1);
        c.due("fewest in run " + seed, x.fewest(), can ? leastFalse() : -2);
        // an object answers 512 calls: machines, stamps and what was seen are 320 of them at most
        for (int i = 0; i < 150; i++) {
            int stamp = n(0, stamps.size() - 1);
            int due = !can ? -2 : !canBe(stamp, -1) ? 1 : !canBe(-1, stamp) ? 2 : 0;
            c.due("sure " + stamp + " in run " + seed, x.sure(stamp), due);
            answers[due == -2 ? 3 : due]++;
        }
    }

    /** Each stamp: machine, task, man, day, and 1 if it is meant to be true: two of a man's day at most. */
    private void tellStamps(int machines, int men, int days, int many) {
        for (int i = 0; i < many; i++) {
            int[] s = {n(0, machines - 1), n(0, 9), n(0, men - 1), n(0, days), 1};
            int before = 0;
            for (int[] t : stamps) before += t[4] == 1 && t[2] == s[2] && t[3] == s[3] ? 1 : 0;
            s[4] = before < 2 && random.nextInt(5) != 0 ? 1 : 0;
            c.due("stamp", x.stamp(s[0], s[1], s[2], s[3]), i);
            stamps.add(s);
        }
    }

    /** What is seen goes by the stamps that are meant to be true, but for a stray one now and then. */
    private void tellSeen(int many, boolean stray) {
        for (int i = 0; i < many; i++) {
            int[] of = stamps.get(n(0, stamps.size() - 1));
            int day = n(0, 2) == 0 ? n(0, x.count(0)) : of[3];
            boolean done = false;
            for (int[] s : stamps) done |= s[4] == 1 && s[0] == of[0] && s[1] == of[1] && s[3] <= day;
            if (!done && n(0, 2) != 0) continue;
            if (stray && random.nextInt(60) == 0) done = !done;
            seen.add(new int[] {of[0], of[1], day, done ? 1 : 0});
            c.due("see", x.see(of[0], of[1], day, done), seen.size());
        }
    }

    private static boolean sameTask(int[] a, int[] b) { return a[0] == b[0] && a[1] == b[1]; }

    private boolean mayBeTrue(int[] stamp) {
        for (int[] v : seen) if (v[3] == 0 && sameTask(v, stamp) && stamp[3] <= v[2]) return false;
        return true;
    }

    private int leastFalse() {
        int untrue = 0;
        int[] ofTurn = new int[16 * 20];
        for (int[] s : stamps) {
            if (!mayBeTrue(s) || ++ofTurn[s[2] * 20 + s[3]] > 2) untrue++;
        }
        return untrue;
    }

    /** Whether a set can be in which one stamp is false and another true (or -1). */
    private boolean canBe(int untrue, int trueOne) {
        // of each place, two for each man's day, the stamp that has it
        int[] holder = new int[2 * 16 * 20];
        java.util.Arrays.fill(holder, -1);
        if (trueOne >= 0) {
            int[] s = stamps.get(trueOne);
            if (!mayBeTrue(s)) return false;
            holder[2 * (s[2] * 20 + s[3])] = trueOne;
        }
        for (int[] v : seen) {
            if (v[3] == 0 || isMet(v, holder)) continue;
            if (!place(v, holder, new boolean[holder.length], untrue, trueOne)) return false;
        }
        for (int[] v : seen) if (v[3] == 1 && !isMet(v, holder)) return false;
        return true;
    }

    private boolean isMet(int[] sight, int[] holder) {
        for (int at : holder) {
            if (at >= 0 && sameTask(stamps.get(at), sight) && stamps.get(at)[3] <= earliest(sight)) return true;
        }
        return false;
    }

    /** The earliest day on which that task was seen done. */
    private int earliest(int[] sight) {
        int day = 9999;
        for (int[] v : seen) if (v[3] == 1 && sameTask(v, sight)) day = Math.min(day, v[2]);
        return day;
    }

    private boolean place(int[] sight, int[] holder, boolean[] tried, int untrue, int trueOne) {
        int by = earliest(sight);
        for (int i = 0; i < stamps.size(); i++) {
            int[] s = stamps.get(i);
            if (i == untrue || !sameTask(s, sight) || s[3] > by || !mayBeTrue(s)) continue;
            for (int at = 2 * (s[2] * 20 + s[3]), end = at + 2; at < end; at++) {
                if (tried[at] || trueOne >= 0 && holder[at] == trueOne) continue;
                tried[at] = true;
                if (holder[at] < 0 || place(stamps.get(holder[at]), holder, tried, untrue, trueOne)) {
                    holder[at] = i;
                    return true;
                }
            }
        }
        return false;
    }
}
