import java.util.ArrayList;
import java.util.Arrays;
import java.util.List;
import java.util.function.ToIntFunction;

/**
 * The document told a second time, as plainly and slowly as can be: each h is tried, each set of
 * false stamps, each flight. NearlyShut is held against it in random runs.
 */
final class Model {
    static final int NONE = -1;
    static final int NEVER = Integer.MAX_VALUE;

    static final class Part implements Cloneable {
        int kind, driver, gap, times, by, limit, strength, mark, wears;

        Part copy() {
            try {
                return (Part) clone();
            } catch (CloneNotSupportedException e) {
                throw new IllegalStateException(e);
            }
        }
    }

    static final class Machine {
        int[] wear = new int[24], set = new int[24], bent = new int[24], place = new int[24];
        int flights;
        boolean[] took = new boolean[12];

        Machine copy() {
            Machine m = new Machine();
            m.wear = wear.clone();
            m.set = set.clone();
            m.bent = bent.clone();
            m.place = place.clone();
            m.flights = flights;
            m.took = took.clone();
            return m;
        }
    }

    static final class Facts {
        int day, machine, flights, bent, wear, done, since;
    }

    static final class Clause {
        String head;
        int task, within, thing;
        ToIntFunction<Facts> sum;
        ToIntFunction<Facts> test;
    }

    static final class Order {
        int kind, day;
        List<Clause> clauses;
    }

    static final class Change { int part, gap, mark, strength, coins; }
    static final class Stamp { int machine, task, man, day; }
    static final class Sight { int machine, task, day; boolean done; }
    static final class Paper { int machine, day, needs; int[] read = new int[16]; }
    static final class Mark { int now; List<Machine> machines; }

    int now;
    List<Part> parts = new ArrayList<>();
    List<Machine> machines = new ArrayList<>();
    List<Change> changes = new ArrayList<>();
    List<Order> orders = new ArrayList<>();
    List<Stamp> stamps = new ArrayList<>();
    List<Sight> seen = new ArrayList<>();
    List<Paper> papers = new ArrayList<>();
    Mark[] marks = new Mark[4];
    StringBuilder tape = new StringBuilder();

    static boolean out(long n, long least, long most) { return n < least || n > most; }
    boolean noMachine(int m) { return out(m, 0, machines.size() - 1); }
    boolean noPart(int p) { return out(p, 0, parts.size() - 1); }

    boolean clock(int day) {
        if (day < now || day > 9999) return false;
        now = day;
        return true;
    }

    int part(int kind, int driver, int gap, int share, int limit, int strength, int mark) {
        if (parts.size() == 24 || out(kind, 0, 5) || out(gap, 0, 99) || out(share, 11, 99) || share % 10 == 0
            || out(limit, 0, 999) || out(strength, 0, 999) || out(mark, 0, 999)) return NONE;
        if (parts.isEmpty() != (kind == 0)) return NONE;
        if (kind == 0 && driver != NONE) return NONE;
        if (kind != 0 && (noPart(driver) || parts.get(driver).kind >= 3)) return NONE;
        if (kind == 5 && parts.get(driver).kind != 2) return NONE;
        Part p = new Part();
        p.kind = kind; p.driver = driver; p.gap = gap; p.times = share / 10; p.by = share % 10;
        p.limit = limit; p.strength = strength; p.mark = mark;
        parts.add(p);
        return parts.size() - 1;
    }

    int machine() {
        if (machines.size() == 20) return NONE;
        machines.add(new Machine());
        return machines.size() - 1;
    }

    int turn(int machine, int part, int what, int n) {
        if (noMachine(machine) || noPart(part)) return -1000;
        if (what == 0 ? out(n, 0, 99) : what != 1 || out(n, -99, 99)) return -1000;
        int[] row = what == 0 ? machines.get(machine).wear : machines.get(machine).set;
        int was = row[part];
        row[part] = n;
        return was;
    }

    int anew(int machine, int part) {
        if (noMachine(machine) || noPart(part) || parts.get(part).kind != 1) return NONE;
        int was = machines.get(machine).bent[part];
        machines.get(machine).bent[part] = 0;
        return was;
    }

    /** Asked of each part with the handle at h; places are written into the machine. */
    static int[] asked(List<Part> drawing, Machine m, int h) {
        int[] asked = new int[drawing.size()];
        for (int i = 0; i < asked.length; i++) {
            Part p = drawing.get(i);
            asked[i] = i == 0 ? h : Math.max(0, m.place[p.driver] - (p.gap + m.wear[i])) * p.times / p.by;
            m.place[i] = Math.max(0, Math.min(asked[i], p.limit) - m.bent[i]);
        }
        return asked;
    }

    static int pushed(List<Part> drawing, Machine m, int travel, int force) {
        for (int h = travel; ; h--) {
            int[] asked = asked(drawing, m, h);
            boolean can = true;
            for (int i = 0; i < asked.length; i++) {
                Part p = drawing.get(i);
                boolean gives = p.kind == 1 && p.strength <= force;
                if (!gives && asked[i] > p.limit) can = false;
            }
            if (can) {
                for (int i = 0; i < asked.length; i++) {
                    int beyond = asked[i] - drawing.get(i).limit;
                    if (drawing.get(i).kind == 1 && beyond > 0) m.bent[i] = Math.min(9999, m.bent[i] + beyond);
                }
                return h;
            }
        }
    }

    int push(int machine, int travel, int force) {
        if (noMachine(machine) || parts.isEmpty() || out(travel, 0, 999) || out(force, 0, 999)) return NONE;
        return pushed(parts, machines.get(machine), travel, force);
    }

    boolean release(int machine) {
        if (noMachine(machine)) return false;
        machines.get(machine).place = new int[24];
        return true;
    }

    static boolean over(List<Part> drawing, Machine m, int i) {
        Part p = drawing.get(i);
        return m.place[p.kind == 5 ? p.driver : i] >= p.mark + m.set[i];
    }

    static boolean shut(List<Part> drawing, Machine m) {
        int hooks = 0, over = 0;
        for (int i = 0; i < drawing.size(); i++) {
            if (drawing.get(i).kind == 2) {
                hooks++;
                if (over(drawing, m, i)) over++;
            }
        }
        return hooks > 0 && hooks == over;
    }

    static boolean looks(List<Part> drawing, Machine m, int looked) {
        int[] bits = {1, 0, 0, 2, 4, 8};
        for (int i = 0; i < drawing.size(); i++) {
            if ((bits[drawing.get(i).kind] & looked) != 0 && !over(drawing, m, i)) return false;
        }
        return true;
    }

    int state(int machine, int part, int what) {
        if (noMachine(machine) || noPart(part) || out(what, 0, 4)) return -1000;
        Machine m = machines.get(machine);
        if (what == 4) return over(parts, m, part) ? 1 : 0;
        return (what == 0 ? m.place : what == 1 ? m.wear : what == 2 ? m.set : m.bent)[part];
    }

    int judged(int machine, int what, int looked) {
        if (noMachine(machine) || out(what, 0, 2) || out(looked, 0, 15)) return NONE;
        Machine m = machines.get(machine);
        boolean shut = shut(parts, m), looks = looks(parts, m, looked);
        return (what == 0 ? shut : what == 1 ? looks : looks && !shut) ? 1 : 0;
    }

    List<Integer> unlike(List<Part> drawing, int machine, int a, int b, int most, int force, int looked) {
        List<Integer> found = new ArrayList<>();
        for (int wa = 0; wa <= most; wa++) {
            for (int wb = 0; wb <= most; wb++) {
                Machine m = machines.get(machine).copy();
                m.wear[a] = wa;
                m.wear[b] = wb;
                pushed(drawing, m, Math.min(999, drawing.get(0).limit), force);
                if (looks(drawing, m, looked) && !shut(drawing, m)) found.add(16 * wa + wb);
            }
        }
        return found;
    }

    boolean canNotTry(int machine, int a, int b, int most, int force, int looked) {
        return noMachine(machine) || noPart(a) || noPart(b) || a == b || out(most, 0, 15) || out(force, 0, 999)
            || out(looked, 0, 15);
    }

    int tried(int machine, int a, int b, int most, int force, int looked, int k) {
        if (canNotTry(machine, a, b, most, force, looked)) return NONE;
        List<Integer> found = unlike(parts, machine, a, b, most, force, looked);
        if (k == NONE) return found.size();
        return k < 0 || k >= found.size() ? NONE : found.get(k);
    }

    int change(int part, int gap, int mark, int strength, int coins) {
        if (changes.size() == 8 || noPart(part) || out(gap, 0, 99) || out(mark, -99, 99) || out(strength, 0, 999)
            || out(coins, 0, 999)) return NONE;
        Change c = new Change();
        c.part = part; c.gap = gap; c.mark = mark; c.strength = strength; c.coins = coins;
        changes.add(c);
        return changes.size() - 1;
    }

    int cheapest(int machine, int a, int b, int most, int force, int looked) {
        if (canNotTry(machine, a, b, most, force, looked)) return NONE;
        long best = Long.MAX_VALUE;
        for (int chosen = 0; chosen < 1 << changes.size(); chosen++) {
            List<Part> drawing = new ArrayList<>();
            for (Part p : parts) drawing.add(p.copy());
            long coins = 0;
            for (int i = 0; i < changes.size(); i++) {
                if ((chosen & 1 << i) == 0) continue;
                Change c = changes.get(i);
                Part p = drawing.get(c.part);
                p.gap = Math.max(0, p.gap - c.gap);
                p.mark += c.mark;
                p.strength += c.strength;
                coins += c.coins;
            }
            long rank = (coins * 100 + Integer.bitCount(chosen)) * 1000 + chosen;
            if (rank < best && unlike(drawing, machine, a, b, most, force, looked).isEmpty()) best = rank;
        }
        return best == Long.MAX_VALUE ? -2 : (int) (best % 1000);
    }

    int goes(int machine, int rate, int inches) {
        if (noMachine(machine) || out(rate, 1, 99) || out(inches, 1, 999)) return NONE;
        Machine m = machines.get(machine);
        List<Integer> bear = new ArrayList<>();
        for (int i = 0; i < parts.size(); i++) {
            Part p = parts.get(i);
            if (p.kind == 2 && over(parts, m, i)) bear.add(p.strength + 5 * (m.place[i] - (p.mark + m.set[i])));
        }
        for (int height = 0; height <= 400; height++) {
            long load = (long) height * rate * inches;
            boolean some = true;
            while (some && !bear.isEmpty()) {
                long each = (load + bear.size() - 1) / bear.size();
                some = bear.removeIf(n -> n < each);
            }
            if (bear.isEmpty()) return height;
        }
        return -2;
    }

    int floor(int height, int rate, int bears, int holes, int seats, int wires, int what) {
        if (out(height, 0, 400) || out(rate, 1, 99) || out(bears, 0, 99999) || out(holes, 0, 99) || out(seats, 0, 400)
            || out(wires, 0, 40) || out(what, 0, 1)) return NONE;
        int holds = bears + 50 * holes - 20 * seats, presses = rate * height * 10;
        if (presses <= holds) return 0;
        return what == 0 ? 1 : Math.min(wires, (int) Math.ceil((presses - holds) / 100.0));
    }

    int feed(int a, int b, int c, int d, int e) {
        if (tape.length() > 380) return NONE;
        for (int n : new int[] {a, b, c, d, e}) {
            for (int i = 3; i >= 0; i--) tape.append((char) ((n >> 8 * i) & 0xff));
        }
        return tape.length();
    }

    int end(int n) {
        if (n < 0 || n > tape.length()) return NONE;
        tape.setLength(n);
        return n;
    }

    static final class Fault extends RuntimeException {
        private static final long serialVersionUID = 1;
        final int code;

        Fault(int place, int what) { code = 1 + 8 * place + what; }
    }

    /** Reads straight along the text, byte by byte. */
    static final class Text {
        final String text;
        int at, units;

        Text(String text) { this.text = text; }

        int blanks() {
            while (at < text.length() && text.charAt(at) == ' ') at++;
            return at;
        }

        char peek() {
            blanks();
            return at < text.length() ? text.charAt(at) : (char) 999;
        }

        String letters() {
            int to = blanks();
            while (to < text.length() && text.charAt(to) >= 'a' && text.charAt(to) <= 'z') to++;
            return text.substring(at, to);
        }

        String digits() {
            int to = blanks();
            while (to < text.length() && text.charAt(to) >= '0' && text.charAt(to) <= '9') to++;
            return text.substring(at, to);
        }

        boolean word(String w) {
            if (!letters().equals(w)) return false;
            at += w.length();
            return true;
        }

        int number(int most) {
            String d = digits();
            if (d.isEmpty()) throw new Fault(at, 0);
            if (d.length() > 5 || Integer.parseInt(d) > most) throw new Fault(at, 1);
            at += d.length();
            return Integer.parseInt(d);
        }

        List<Clause> clauses() {
            List<Clause> all = new ArrayList<>();
            while (true) {
                all.add(clause(all.size()));
                if (peek() == (char) 999) return all;
                if (peek() != ';') throw new Fault(at, 0);
                at++;
            }
        }

        Clause clause(int before) {
            Clause c = new Clause();
            c.head = letters();
            if (!List.of("must", "force", "look", "ground").contains(c.head)) throw new Fault(at, 0);
            if (before == 12) throw new Fault(at, 4);
            at += c.head.length();
            if (c.head.equals("must")) {
                c.task = number(9);
                if (!word("within")) throw new Fault(at, 0);
                c.within = number(999);
            } else if (c.head.equals("force")) {
                c.sum = sum();
            } else if (c.head.equals("look")) {
                int thing = Arrays.asList("handle", "vent", "lamp", "window").indexOf(letters());
                if (thing < 0) throw new Fault(at, 0);
                at += letters().length();
                c.thing = 1 << thing;
            }
            c.test = word("if") ? test(0) : f -> 1;
            return c;
        }

        ToIntFunction<Facts> test(int deep) {
            ToIntFunction<Facts> left = all(deep);
            while (word("or")) {
                ToIntFunction<Facts> a = left, b = all(deep);
                left = f -> a.applyAsInt(f) != 0 || b.applyAsInt(f) != 0 ? 1 : 0;
            }
            return left;
        }

        ToIntFunction<Facts> all(int deep) {
            ToIntFunction<Facts> left = fact(deep);
            while (word("and")) {
                ToIntFunction<Facts> a = left, b = fact(deep);
                left = f -> a.applyAsInt(f) != 0 && b.applyAsInt(f) != 0 ? 1 : 0;
            }
            return left;
        }

        ToIntFunction<Facts> fact(int deep) {
            boolean not = letters().equals("not");
            if (not || peek() == '[') {
                if (deep == 10) throw new Fault(at, 2);
                if (not) {
                    word("not");
                    ToIntFunction<Facts> of = fact(deep + 1);
                    return f -> 1 - of.applyAsInt(f);
                }
                at++;
                ToIntFunction<Facts> in = test(deep + 1);
                if (peek() != ']') throw new Fault(at, 0);
                at++;
                return in;
            }
            ToIntFunction<Facts> a = sum();
            char sign = peek();
            if ("<=>".indexOf(sign) < 0) throw new Fault(at, 0);
            if (++units > 60) throw new Fault(at, 3);
            at++;
            boolean equal = sign == '=';
            if (!equal && at < text.length() && text.charAt(at) == '=') {
                equal = true;
                at++;
            }
            ToIntFunction<Facts> b = sum();
            boolean withEqual = equal;
            return f -> {
                int c = Integer.compare(a.applyAsInt(f), b.applyAsInt(f));
                return c == 0 && withEqual || c < 0 && sign == '<' || c > 0 && sign == '>' ? 1 : 0;
            };
        }

        ToIntFunction<Facts> sum() {
            ToIntFunction<Facts> left = value();
            while (peek() == '+' || peek() == '-') {
                int by = peek() == '+' ? 1 : -1;
                at++;
                ToIntFunction<Facts> a = left, b = value();
                left = f -> a.applyAsInt(f) + by * b.applyAsInt(f);
            }
            return left;
        }

        ToIntFunction<Facts> value() {
            blanks();
            int from = at;
            ToIntFunction<Facts> value;
            if (!digits().isEmpty()) {
                int n = number(99999);
                value = f -> n;
            } else {
                String w = letters();
                switch (w) {
                    case "day": value = f -> f.day; break;
                    case "machine": value = f -> f.machine; break;
                    case "flights": value = f -> f.flights; break;
                    case "bent": value = f -> f.bent; break;
                    case "wear": value = f -> f.wear; break;
                    case "done": value = f -> f.done; break;
                    case "since": value = f -> f.since; break;
                    default: throw new Fault(at, 0);
                }
                at += w.length();
            }
            if (++units > 60) throw new Fault(from, 3);
            return value;
        }
    }

    int order(int kind, int day) {
        if (orders.size() == 12 || out(kind, 0, 2) || out(day, now, 9999)) return NONE;
        Order o = new Order();
        o.kind = kind;
        o.day = day;
        String text = tape.toString();
        tape.setLength(0);
        try {
            o.clauses = new Text(text).clauses();
        } catch (Fault fault) {
            return -2 - fault.code;
        }
        orders.add(o);
        return orders.size() - 1;
    }

    boolean takes(int machine, int order, boolean is) {
        if (noMachine(machine) || out(order, 0, orders.size() - 1) || orders.get(order).kind != 1) return false;
        boolean was = machines.get(machine).took[order];
        machines.get(machine).took[order] = is;
        return was != is;
    }

    int bound(int machine, int what) {
        if (noMachine(machine) || out(what, 0, 4)) return NONE;
        Machine m = machines.get(machine);
        int known = 0;
        for (Stamp s : stamps) if (s.machine == machine) known |= 1 << s.task;
        Facts f = new Facts();
        f.day = now;
        f.machine = machine;
        f.flights = m.flights;
        f.bent = Arrays.stream(m.bent).sum();
        f.wear = Arrays.stream(m.wear).sum();
        f.done = Integer.bitCount(known);
        int owed = 0, late = 0, force = 999, look = 0, ground = 0;
        for (int i = 0; i < orders.size(); i++) {
            Order o = orders.get(i);
            if (o.day > now || o.kind == 2 || o.kind == 1 && !m.took[i]) continue;
            f.since = now - o.day;
            for (Clause c : o.clauses) {
                if (c.test.applyAsInt(f) == 0) continue;
                switch (c.head) {
                    case "must":
                        if ((known & 1 << c.task) != 0) break;
                        owed |= 1 << c.task;
                        if (now > o.day + c.within) late |= 1 << c.task;
                        break;
                    case "force": force = Math.max(0, Math.min(force, c.sum.applyAsInt(f))); break;
                    case "look": look |= c.thing; break;
                    default: ground = 1;
                }
            }
        }
        return new int[] {owed, late, force, look, late != 0 ? 1 : ground}[what];
    }

    int stamp(int machine, int task, int man, int day) {
        if (stamps.size() == 200 || noMachine(machine) || out(task, 0, 9) || out(man, 0, 15) || out(day, 0, now)) return NONE;
        Stamp s = new Stamp();
        s.machine = machine; s.task = task; s.man = man; s.day = day;
        stamps.add(s);
        return stamps.size() - 1;
    }

    int see(int machine, int task, int day, boolean done) {
        if (seen.size() == 100 || noMachine(machine) || out(task, 0, 9) || out(day, 0, now)) return NONE;
        Sight s = new Sight();
        s.machine = machine; s.task = task; s.day = day; s.done = done;
        seen.add(s);
        return seen.size();
    }

    boolean canBe(int falseOnes) {
        for (Stamp s : stamps) {
            int others = 0;
            for (int i = 0; i < stamps.size(); i++) {
                Stamp t = stamps.get(i);
                if ((falseOnes & 1 << i) == 0 && t.man == s.man && t.day == s.day) others++;
            }
            if (others > 2) return false;
        }
        for (Sight v : seen) {
            boolean has = false;
            for (int i = 0; i < stamps.size(); i++) {
                Stamp t = stamps.get(i);
                if ((falseOnes & 1 << i) == 0 && t.machine == v.machine && t.task == v.task && t.day <= v.day) has = true;
            }
            if (has != v.done) return false;
        }
        return true;
    }

    /** All sets of false stamps that can be; for a few stamps alone. */
    List<Integer> sets() {
        List<Integer> sets = new ArrayList<>();
        for (int i = 0; i < 1 << stamps.size(); i++) if (canBe(i)) sets.add(i);
        return sets;
    }

    int fewest() {
        return sets().stream().mapToInt(Integer::bitCount).min().orElse(-2);
    }

    int sure(int stamp) {
        if (out(stamp, 0, stamps.size() - 1)) return NONE;
        List<Integer> sets = sets();
        if (sets.isEmpty()) return -2;
        if (sets.stream().allMatch(s -> (s & 1 << stamp) != 0)) return 2;
        return sets.stream().noneMatch(s -> (s & 1 << stamp) != 0) ? 1 : 0;
    }

    int paper(int machine, int day, int needs) {
        if (papers.size() == 30 || machine != NONE && noMachine(machine) || out(day, 0, now)
            || needs < 0 || needs >>> papers.size() != 0) return NONE;
        Paper p = new Paper();
        p.machine = machine; p.day = day; p.needs = needs;
        Arrays.fill(p.read, NEVER);
        papers.add(p);
        return papers.size() - 1;
    }

    boolean read(int man, int paper, int day) {
        if (out(man, 0, 15) || out(paper, 0, papers.size() - 1) || out(day, papers.get(paper).day, now)) return false;
        papers.get(paper).read[man] = Math.min(papers.get(paper).read[man], day);
        return true;
    }

    boolean knewBy(int man, int paper, int day) {
        Paper p = papers.get(paper);
        if (p.read[man] > day) return false;
        for (int i = 0; i < paper; i++) if ((p.needs & 1 << i) != 0 && !knewBy(man, i, day)) return false;
        return true;
    }

    int knew(int man, int paper) {
        if (out(man, 0, 15) || out(paper, 0, papers.size() - 1)) return NONE;
        for (int day = 0; day <= now; day++) if (knewBy(man, paper, day)) return day;
        return -2;
    }

    int warned(int machine, int day) {
        if (noMachine(machine) || out(day, 0, 9999)) return NONE;
        int men = 0;
        for (int man = 0; man < 16; man++) {
            for (int i = 0; i < papers.size(); i++) {
                if (papers.get(i).machine == machine && knewBy(man, i, day)) men |= 1 << man;
            }
        }
        return men;
    }

    int wears(int part, int flights) {
        if (noPart(part) || out(flights, 0, 9999)) return NONE;
        int was = parts.get(part).wears;
        parts.get(part).wears = flights;
        return was;
    }

    int fly(int machine, int n) {
        if (noMachine(machine) || out(n, 0, 9999)) return NONE;
        Machine m = machines.get(machine);
        for (int i = 0; i < n && m.flights < 999999; i++) {
            m.flights++;
            for (int p = 0; p < parts.size(); p++) {
                int every = parts.get(p).wears;
                if (every > 0 && m.flights % every == 0 && m.wear[p] < 99) m.wear[p]++;
            }
        }
        return m.flights;
    }

    static long noneIn(int u, long n) {
        long none = 1000000;
        for (long i = 0; i < n; i++) {
            long whole = none * u / 1000000;
            none -= none * u % 1000000 == 0 ? whole : whole + 1;
        }
        return none;
    }

    int odds(int u, int n) {
        if (out(u, 0, 1000000) || out(n, 0, 9999)) return NONE;
        return (int) (1000000 - noneIn(u, n));
    }

    int first(int u, int n, int p) {
        if (out(u, 0, 1000000) || out(n, 1, 9999) || out(p, 0, 1000000)) return NONE;
        long none = 1000000;
        for (int year = 1; year <= 99; year++) {
            for (int i = 0; i < n; i++) none -= (none * u + 999999) / 1000000;
            if (1000000 - none >= p) return year;
        }
        return -2;
    }

    int mark(int k) {
        if (out(k, 0, 3)) return NONE;
        marks[k] = new Mark();
        marks[k].now = now;
        marks[k].machines = new ArrayList<>();
        for (Machine m : machines) marks[k].machines.add(m.copy());
        return now;
    }

    int back(int k) {
        if (out(k, 0, 3) || marks[k] == null) return NONE;
        now = marks[k].now;
        machines = new ArrayList<>();
        for (Machine m : marks[k].machines) machines.add(m.copy());
        stamps.removeIf(s -> noMachine(s.machine));
        seen.removeIf(s -> noMachine(s.machine));
        for (Paper p : papers) if (noMachine(p.machine)) p.machine = NONE;
        return now;
    }

    int count(int what) {
        int[] all = {now, parts.size(), machines.size(), changes.size(), orders.size(), stamps.size(), seen.size(),
            papers.size(), tape.length()};
        return out(what, 0, 8) ? NONE : all[what];
    }
}
