import java.util.ArrayList;
import java.util.List;
import java.util.Random;

/** Random runs of calls, each answer held against the slow Model; the seeds are fixed. */
public final class RandomRunsTest {
    private static final int RUNS = 4000;
    private static int wrong = 0;

    private final Random random;
    private final NearlyShut shut = new NearlyShut();
    private final Model model = new Model();
    private final List<String> calls = new ArrayList<>();
    private boolean failed = false;
    private final int mostStamps;

    private RandomRunsTest(long seed) {
        random = new Random(seed);
        mostStamps = random.nextInt(3) == 0 ? 11 : 7;
    }

    public static void main(String[] args) {
        int runs = args.length > 0 ? Integer.parseInt(args[0]) : RUNS;
        int start = args.length > 1 ? Integer.parseInt(args[1]) : 0;
        for (int seed = start; seed < start + runs && wrong < 5; seed++) {
            new RandomRunsTest(seed).run(seed);
        }
        System.out.println(wrong == 0 ? "all random runs are as the model" : wrong + " random runs are not as the model");
        if (wrong != 0) System.exit(1);
    }

    private int n(int least, int most) { return least + random.nextInt(most - least + 1); }

    /** Mostly within, now and then at or beyond an edge. */
    private int arg(int least, int most) {
        switch (random.nextInt(40)) {
            case 0: return least - 1;
            case 1: return most + 1;
            case 2: return least;
            case 3: return most;
            default: return most < least ? least : n(least, most);
        }
    }

    private int aMachine() { return arg(0, model.machines.size() - 1); }
    private int aPart() { return arg(0, model.parts.size() - 1); }
    private int aDay() { return arg(0, model.now); }

    private void due(String call, long got, long want) {
        calls.add(call + " = " + got);
        if (got != want && !failed) {
            failed = true;
            wrong++;
            System.out.println("a run differs: " + call + " answered " + got + ", the model says " + want);
            for (String c : calls.subList(Math.max(0, calls.size() - 60), calls.size())) System.out.println("    " + c);
        }
    }

    private static long b(boolean is) { return is ? 1 : 0; }

    private void run(int seed) {
        int theme = seed % 6;
        int length = n(30, 250);
        setUp();
        for (int i = 0; i < length && !failed; i++) {
            int which = random.nextInt(4) == 0 ? random.nextInt(36) : themed(theme);
            one(which);
        }
        if (!failed) checkAll();
        if (failed) System.out.println("    (seed " + seed + ")");
    }

    private int themed(int theme) {
        int[][] sets = {
            {3, 5, 6, 7, 7, 7, 8, 9, 9, 10, 10, 14}, {5, 7, 11, 11, 12, 13, 29, 30}, {2, 18, 18, 18, 19, 20, 20, 20, 30, 7},
            {2, 21, 22, 23, 24, 24, 24, 33, 34}, {2, 25, 26, 26, 26, 27, 28, 33, 34}, {4, 33, 34, 2, 5, 7, 30, 9, 20, 21, 19, 35}};
        return sets[theme][random.nextInt(sets[theme].length)];
    }

    private void setUp() {
        for (int i = n(0, 8); i > 0; i--) one(3);
        for (int i = n(0, 3); i > 0; i--) one(4);
    }

    private void checkAll() {
        for (int what = -1; what <= 9; what++) due("count " + what, shut.count(what), model.count(what));
        for (int m = 0; m < model.machines.size(); m++) {
            for (int p = 0; p < model.parts.size(); p++) {
                for (int w = 0; w < 5; w++) due("state " + m + " " + p + " " + w, shut.state(m, p, w), model.state(m, p, w));
            }
            for (int w = 0; w < 5; w++) due("bound " + m + " " + w, shut.bound(m, w), model.bound(m, w));
        }
    }

    private void one(int which) {
        if (which <= 15) {
            oneOfTheDoor(which);
        } else if (which <= 20) {
            oneOfTheOrders(which);
        } else {
            oneOfTheRest(which);
        }
    }

    private void oneOfTheDoor(int which) {
        int a, b2, c, d, e, f, g;
        switch (which) {
            case 2:
                a = random.nextInt(3) == 0 ? arg(0, 9999) / (random.nextBoolean() ? 1 : 1000) : model.now + n(-1, 4);
                due("clock " + a, b(shut.clock(a)), b(model.clock(a)));
                break;
            case 3:
                boolean first = model.parts.isEmpty();
                a = first ? arg(0, 0) : arg(1, 5);
                b2 = first ? (random.nextInt(20) == 0 ? 0 : -1) : aPart();
                c = random.nextInt(3) == 0 ? arg(0, 99) : n(0, 6);
                d = random.nextInt(20) == 0 ? n(-20, 120) : n(1, 9) * 10 + n(1, 9);
                if (random.nextBoolean()) d = new int[] {11, 12, 21, 32, 23}[n(0, 4)];
                e = random.nextInt(3) == 0 ? arg(0, 999) : n(10, 60);
                f = random.nextInt(2) == 0 ? arg(0, 999) : n(0, 50);
                g = random.nextInt(4) == 0 ? arg(0, 999) : n(0, 50);
                due("part " + a + " " + b2 + " " + c + " " + d + " " + e + " " + f + " " + g,
                    shut.part(a, b2, c, d, e, f, g), model.part(a, b2, c, d, e, f, g));
                break;
            case 4:
                due("machine", shut.machine(), model.machine());
                break;
            case 5:
                a = aMachine(); b2 = aPart(); c = arg(0, 1); d = c == 1 ? arg(-99, 99) : arg(0, 99);
                if (random.nextBoolean()) d = d / 8;
                due("turn " + a + " " + b2 + " " + c + " " + d, shut.turn(a, b2, c, d), model.turn(a, b2, c, d));
                break;
            case 6:
                a = aMachine(); b2 = aPart();
                due("anew " + a + " " + b2, shut.anew(a, b2), model.anew(a, b2));
                break;
            case 7:
                a = aMachine(); b2 = random.nextBoolean() ? 999 : arg(0, 999); c = random.nextBoolean() ? n(0, 60) : arg(0, 999);
                due("push " + a + " " + b2 + " " + c, shut.push(a, b2, c), model.push(a, b2, c));
                break;
            case 8:
                a = aMachine();
                due("release " + a, b(shut.release(a)), b(model.release(a)));
                break;
            case 9:
                a = aMachine(); b2 = aPart(); c = arg(0, 4);
                due("state " + a + " " + b2 + " " + c, shut.state(a, b2, c), model.state(a, b2, c));
                break;
            case 10:
                a = aMachine(); b2 = arg(0, 2); c = arg(0, 15);
                due("judged " + a + " " + b2 + " " + c, shut.judged(a, b2, c), model.judged(a, b2, c));
                break;
            default:
                oneOfTheTrials(which);
        }
    }

    private void oneOfTheTrials(int which) {
        int a = aMachine(), p = aPart(), q = aPart(), d, e, f, g;
        switch (which) {
            case 11:
                d = random.nextInt(4) == 0 ? arg(0, 15) : n(0, 5); e = arg(0, 999) / n(1, 20); f = arg(0, 15); g = n(-2, 20);
                due("tried " + a + " " + p + " " + q + " " + d + " " + e + " " + f + " " + g,
                    shut.tried(a, p, q, d, e, f, g), model.tried(a, p, q, d, e, f, g));
                break;
            case 12:
                d = arg(0, 99); e = random.nextBoolean() ? arg(-99, 99) : n(-50, 20); f = arg(0, 999) / 9; g = n(0, 12);
                due("change " + p + " " + d + " " + e + " " + f + " " + g,
                    shut.change(p, d, e, f, g), model.change(p, d, e, f, g));
                break;
            case 13:
                d = random.nextInt(8) == 0 ? arg(0, 15) : n(0, 3); e = arg(0, 999) / n(1, 20); f = arg(0, 15);
                if (model.changes.size() > 4 && random.nextInt(3) != 0) break;
                due("cheapest " + a + " " + p + " " + q + " " + d + " " + e + " " + f,
                    shut.cheapest(a, p, q, d, e, f), model.cheapest(a, p, q, d, e, f));
                break;
            case 14:
                d = arg(1, 99); e = random.nextBoolean() ? arg(1, 999) : n(1, 9);
                if (random.nextBoolean()) d = n(1, 3);
                due("goes " + a + " " + d + " " + e, shut.goes(a, d, e), model.goes(a, d, e));
                break;
            default:
                int h = arg(0, 400), r = arg(1, 99), bears = arg(0, 99999) / n(1, 40), holes = arg(0, 99);
                int seats = arg(0, 400), wires = arg(0, 40), what = arg(0, 1);
                due("floor " + h + " " + r + " " + bears + " " + holes + " " + seats + " " + wires + " " + what,
                    shut.floor(h, r, bears, holes, seats, wires, what), model.floor(h, r, bears, holes, seats, wires, what));
        }
    }

    private void oneOfTheOrders(int which) {
        int a, b2;
        switch (which) {
            case 16:
                int[] w = {random.nextInt(), random.nextInt(), random.nextInt(), random.nextInt(), random.nextInt()};
                due("feed", shut.feed(w[0], w[1], w[2], w[3], w[4]), model.feed(w[0], w[1], w[2], w[3], w[4]));
                break;
            case 17:
                a = arg(0, model.tape.length());
                due("end " + a, shut.end(a), model.end(a));
                break;
            case 18:
                type(text());
                a = arg(0, 2); b2 = random.nextInt(6) == 0 ? arg(model.now, 9999) : model.now + n(-1, 3);
                due("order " + a + " " + b2, shut.order(a, b2), model.order(a, b2));
                break;
            case 19:
                a = aMachine(); b2 = arg(0, model.orders.size() - 1);
                boolean is = random.nextInt(3) != 0;
                due("takes " + a + " " + b2 + " " + is, b(shut.takes(a, b2, is)), b(model.takes(a, b2, is)));
                break;
            default:
                a = aMachine(); b2 = arg(0, 4);
                due("bound " + a + " " + b2, shut.bound(a, b2), model.bound(a, b2));
        }
    }

    private void type(String text) {
        calls.add("-- \"" + text + "\"");
        due("end 0", shut.end(0), model.end(0));
        for (int i = 0; i < text.length(); i += 20) {
            int[] w = new int[5];
            for (int j = 0; j < 20; j++) {
                int c = i + j < text.length() ? text.charAt(i + j) : 7;
                w[j / 4] = w[j / 4] << 8 | c;
            }
            due("feed", shut.feed(w[0], w[1], w[2], w[3], w[4]), model.feed(w[0], w[1], w[2], w[3], w[4]));
        }
        int len = Math.min(text.length(), 400);
        due("end " + len, shut.end(len), model.end(len));
    }

    private String text() {
        StringBuilder s = new StringBuilder();
        int many = random.nextInt(12) == 0 ? n(11, 14) : n(1, 3);
        int style = random.nextInt(8);
        for (int i = 0; i < many; i++) {
            if (i > 0) s.append(';').append(blank());
            clause(s, style, many);
        }
        if (random.nextInt(3) == 0) mutate(s);
        if (s.length() > 400) s.setLength(400);
        return s.toString();
    }

    private void mutate(StringBuilder s) {
        String signs = "[]<>=+-; 0123456789abdefilmnorstw" + (char) 0 + (char) 255 + "(\t*A";
        for (int i = n(1, 2); i > 0 && s.length() > 0; i--) {
            int at = random.nextInt(s.length());
            switch (random.nextInt(4)) {
                case 0: s.deleteCharAt(at); break;
                case 1: s.insert(at, signs.charAt(random.nextInt(signs.length()))); break;
                case 2: s.setCharAt(at, signs.charAt(random.nextInt(signs.length()))); break;
                default: if (random.nextInt(3) == 0) s.setLength(at); else s.insert(at, pick("not ", " if ", " or ", " and ", "day", " within "));
            }
        }
    }

    private String pick(String... words) { return words[random.nextInt(words.length)]; }
    private String blank() { return pick("", " ", " ", "  "); }

    private void clause(StringBuilder s, int style, int many) {
        switch (many > 10 ? 3 : random.nextInt(4)) {
            case 0:
                s.append("must").append(blank()).append(random.nextInt(15) == 0 ? pick("10", "00005", "000005", "9") : "" + n(0, 9))
                    .append(blank()).append("within").append(blank())
                    .append(random.nextInt(12) == 0 ? pick("1000", "999", "00999", "000999") : "" + n(0, 4));
                break;
            case 1:
                s.append("force ");
                sum(s, style == 0 ? 70 : 3);
                break;
            case 2:
                s.append("look ").append(pick("handle", "vent", "lamp", "window"));
                break;
            default:
                s.append(pick("ground", "look lamp", "force 7"));
        }
        if (random.nextInt(3) != 0 && many < 11) {
            s.append(" if ");
            test(s, style == 1 ? 14 : 3, style);
        }
        s.append(blank());
    }

    private void test(StringBuilder s, int deep, int style) {
        int many = style == 2 ? n(1, 8) : n(1, 2);
        for (int i = 0; i < many; i++) {
            if (i > 0) s.append(pick(" and ", " or "));
            fact(s, deep, style);
        }
    }

    private void fact(StringBuilder s, int deep, int style) {
        int kind = random.nextInt(style == 1 ? 6 : 10);
        if (deep > 0 && kind < 2) {
            s.append("not ");
            fact(s, deep - 1, style);
        } else if (deep > 0 && kind < (style == 1 ? 5 : 4)) {
            s.append('[').append(blank());
            if (style == 1) fact(s, deep - 1, style); else test(s, deep - 1, style);
            s.append(']');
        } else {
            sum(s, 2);
            s.append(pick("<", "<=", "=", ">=", ">", " < ", " = "));
            sum(s, 2);
        }
    }

    private void sum(StringBuilder s, int most) {
        for (int i = most > 10 ? n(50, most) : n(1, most); i > 0; i--) {
            switch (random.nextInt(3)) {
                case 0: s.append(pick("day", "machine", "flights", "bent", "wear", "done", "since")); break;
                case 1: s.append(n(0, 9)); break;
                default: s.append(most > 10 ? "" + n(0, 9) : random.nextInt(20) == 0 ? pick("99999", "100000", "00001") : "" + n(0, 30));
            }
            if (i > 1) s.append(pick("+", "-", most > 10 ? "+" : " + "));
        }
    }

    private void oneOfTheRest(int which) {
        int a, b2, c, d;
        switch (which) {
            case 21:
                if (model.stamps.size() >= mostStamps) break;
                a = aMachine(); b2 = random.nextInt(9) == 0 ? arg(0, 9) : n(0, 2); c = random.nextInt(9) == 0 ? arg(0, 15) : n(0, 1); d = aDay();
                due("stamp " + a + " " + b2 + " " + c + " " + d, shut.stamp(a, b2, c, d), model.stamp(a, b2, c, d));
                break;
            case 22:
                a = aMachine(); b2 = random.nextInt(9) == 0 ? arg(0, 9) : n(0, 2); c = aDay();
                boolean done = random.nextInt(4) != 0;
                if (model.seen.size() > 5) break;
                due("see " + a + " " + b2 + " " + c + " " + done, shut.see(a, b2, c, done), model.see(a, b2, c, done));
                break;
            case 23:
                due("fewest", shut.fewest(), model.fewest());
                break;
            case 24:
                a = arg(0, model.stamps.size() - 1);
                due("sure " + a, shut.sure(a), model.sure(a));
                break;
            case 25:
                a = random.nextInt(5) == 0 ? -1 : aMachine(); b2 = aDay();
                c = random.nextInt(10) == 0 ? random.nextInt() : random.nextInt(1 << Math.min(30, model.papers.size())) & random.nextInt();
                due("paper " + a + " " + b2 + " " + c, shut.paper(a, b2, c), model.paper(a, b2, c));
                break;
            case 26:
                a = random.nextInt(5) == 0 ? arg(0, 15) : n(0, 2); b2 = arg(0, model.papers.size() - 1); c = aDay();
                due("read " + a + " " + b2 + " " + c, b(shut.read(a, b2, c)), b(model.read(a, b2, c)));
                break;
            case 27:
                a = random.nextInt(5) == 0 ? arg(0, 15) : n(0, 2); b2 = arg(0, model.papers.size() - 1);
                due("knew " + a + " " + b2, shut.knew(a, b2), model.knew(a, b2));
                break;
            case 28:
                a = aMachine(); b2 = random.nextInt(4) == 0 ? arg(0, 9999) : aDay();
                due("warned " + a + " " + b2, shut.warned(a, b2), model.warned(a, b2));
                break;
            case 29:
                a = aPart(); b2 = random.nextBoolean() ? arg(0, 9999) : n(0, 20);
                due("wears " + a + " " + b2, shut.wears(a, b2), model.wears(a, b2));
                break;
            case 30:
                a = aMachine(); b2 = random.nextBoolean() ? arg(0, 9999) : n(0, 30);
                due("fly " + a + " " + b2, shut.fly(a, b2), model.fly(a, b2));
                break;
            case 31:
                a = chance(); b2 = arg(0, 9999);
                due("odds " + a + " " + b2, shut.odds(a, b2), model.odds(a, b2));
                break;
            case 32:
                a = chance(); b2 = random.nextBoolean() ? n(1, 50) : arg(1, 9999); c = random.nextBoolean() ? chance() : arg(0, 1000000);
                due("first " + a + " " + b2 + " " + c, shut.first(a, b2, c), model.first(a, b2, c));
                break;
            case 33:
                a = arg(0, 3);
                due("mark " + a, shut.mark(a), model.mark(a));
                break;
            case 34:
                a = arg(0, 3);
                due("back " + a, shut.back(a), model.back(a));
                break;
            default:
                a = arg(0, 8);
                due("count " + a, shut.count(a), model.count(a));
        }
    }

    private int chance() { return arg(0, 1000000) / new int[] {1, 1, 10, 100, 1000, 10000, 100000}[n(0, 6)]; }
}
