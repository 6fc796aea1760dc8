import java.util.Arrays;

/** A door that nearly shut, and what was ordered, stamped, known and worn before it did not. */
public final class NearlyShut {
    public static final int NONE = -1;

    private static final int WRONG = -1000;
    private static final int NO_WAY = -2;
    private static final int LAST_DAY = 9999;
    /** A day behind all days: what never happened, happened then. */
    private static final int NEVER = 10000;
    private static final int PARTS = 24;
    private static final int MACHINES = 20;
    private static final int CHANGES = 8;
    private static final int ORDERS = 12;
    private static final int STAMPS = 200;
    private static final int SEEN = 100;
    private static final int PAPERS = 30;
    private static final int MEN = 16;
    private static final int TASKS = 10;
    private static final int MARKS = 4;
    private static final int BYTES = 400;
    private static final int FULL = 999;
    private static final int MOST_WEAR = 99;
    private static final int MOST_TRIED = 15;
    private static final int ALL_LOOKED = 15;
    private static final int HEIGHTS = 400;
    private static final int MILLION = 1000000;

    private static final int HANDLE = 0;
    private static final int ROD = 1;
    private static final int HOOK = 2;
    private static final int WINDOW = 5;
    private static final int LAW = 0;
    private static final int BULLETIN = 1;

    private int now;
    private int orderCount;
    private final Drawing drawing;
    private final Fleet fleet;
    private final Door door;
    private final Changes changes;
    private final Reader reader;
    private final Order[] orders;
    private final Binding binding;
    private final Stamps stamps;
    private final Truth truth;
    private final Papers papers;
    private final Fleet[] markedFleets;
    private final int[] markedDays;

    public NearlyShut() {
        now = 0;
        orderCount = 0;
        drawing = new Drawing();
        fleet = new Fleet();
        door = new Door();
        changes = new Changes();
        reader = new Reader();
        orders = new Order[ORDERS];
        binding = new Binding();
        stamps = new Stamps();
        truth = new Truth();
        papers = new Papers();
        markedFleets = new Fleet[MARKS];
        markedDays = new int[MARKS];
    }

    // ---- the door

    public boolean clock(int day) {
        if (!within(day, now, LAST_DAY)) {
            return false;
        }
        now = day;
        return true;
    }

    public int part(int kind, int driver, int gap, int share, int limit, int strength, int mark) {
        boolean sized = within(gap, 0, 99) && within(share / 10, 1, 9) && within(share % 10, 1, 9);
        boolean strong = within(limit, 0, FULL) && within(strength, 0, FULL) && within(mark, 0, FULL);
        if (!sized || !strong || !drawing.takesKind(kind, driver)) {
            return NONE;
        }
        return drawing.add(kind, driver, gap, share, limit, strength, mark);
    }

    public int machine() {
        return fleet.add();
    }

    public int turn(int machine, int part, int what, int n) {
        if (!hasPartOf(machine, part)) {
            return WRONG;
        }
        if (what == 0 && within(n, 0, MOST_WEAR)) {
            return swap(fleet.wear, Fleet.spot(machine, part), n);
        }
        if (what == 1 && within(n, -99, 99)) {
            return swap(fleet.set, Fleet.spot(machine, part), n);
        }
        return WRONG;
    }

    public int anew(int machine, int part) {
        if (!hasPartOf(machine, part) || drawing.kind[part] != ROD) {
            return NONE;
        }
        return swap(fleet.bent, Fleet.spot(machine, part), 0);
    }

    public int push(int machine, int travel, int force) {
        if (!hasPartOf(machine, HANDLE) || !within(travel, 0, FULL) || !within(force, 0, FULL)) {
            return NONE;
        }
        door.load(drawing, fleet, machine);
        door.press(drawing, travel, force);
        door.bend(drawing);
        door.save(fleet, machine);
        return door.place[HANDLE];
    }

    public boolean release(int machine) {
        if (!hasMachine(machine)) {
            return false;
        }
        fleet.letGo(machine);
        return true;
    }

    public int state(int machine, int part, int what) {
        if (!hasPartOf(machine, part)) {
            return WRONG;
        }
        int spot = Fleet.spot(machine, part);
        switch (what) {
            case 0:
                return fleet.place[spot];
            case 1:
                return fleet.wear[spot];
            case 2:
                return fleet.set[spot];
            case 3:
                return fleet.bent[spot];
            case 4:
                door.load(drawing, fleet, machine);
                return asNumber(door.isOver(drawing, part));
            default:
                return WRONG;
        }
    }

    public int judged(int machine, int what, int looked) {
        if (!hasMachine(machine) || !within(looked, 0, ALL_LOOKED)) {
            return NONE;
        }
        door.load(drawing, fleet, machine);
        switch (what) {
            case 0:
                return asNumber(door.isShut(drawing));
            case 1:
                return asNumber(door.looksShut(drawing, looked));
            case 2:
                return asNumber(door.isUnlike(drawing, looked));
            default:
                return NONE;
        }
    }

    // ---- all wear tried, and changes

    public int tried(int machine, int a, int b, int most, int force, int looked, int k) {
        if (!canTry(machine, a, b, most, force, looked) || k < NONE) {
            return NONE;
        }
        door.load(drawing, fleet, machine);
        int found = 0;
        for (int wearA = 0; wearA <= most; wearA++) {
            for (int wearB = 0; wearB <= most; wearB++) {
                int pair = 16 * wearA + wearB;
                if (isUnlikeAt(a, b, pair, force, looked)) {
                    if (found == k) {
                        return pair;
                    }
                    found++;
                }
            }
        }
        return k == NONE ? found : NONE;
    }

    public int change(int part, int gap, int mark, int strength, int coins) {
        boolean sized = within(gap, 0, 99) && within(mark, -99, 99);
        if (!hasPart(part) || !sized || !within(strength, 0, FULL) || !within(coins, 0, FULL)) {
            return NONE;
        }
        return changes.add(part, gap, mark, strength, coins);
    }

    public int cheapest(int machine, int a, int b, int most, int force, int looked) {
        if (!canTry(machine, a, b, most, force, looked)) {
            return NONE;
        }
        int best = NO_WAY;
        int likely = NONE;
        for (int chosen = 0; chosen < 1 << changes.count; chosen++) {
            if (best == NO_WAY || changes.isCheaper(chosen, best)) {
                door.load(drawing, fleet, machine);
                changes.applyTo(door, chosen);
                int pair = unlikePair(a, b, most, force, looked, likely);
                if (pair == NONE) {
                    best = chosen;
                } else {
                    likely = pair;
                }
            }
        }
        return best;
    }

    /**
     * A pair of wear at which the door, as it is loaded, is unlike; NONE, if there is none. The
     * pair that one set of changes left is most often left by the next, so it is tried first.
     */
    private int unlikePair(int a, int b, int most, int force, int looked, int likely) {
        if (likely != NONE && isUnlikeAt(a, b, likely, force, looked)) {
            return likely;
        }
        for (int wearA = 0; wearA <= most; wearA++) {
            for (int wearB = 0; wearB <= most; wearB++) {
                if (isUnlikeAt(a, b, 16 * wearA + wearB, force, looked)) {
                    return 16 * wearA + wearB;
                }
            }
        }
        return NONE;
    }

    private boolean isUnlikeAt(int a, int b, int pair, int force, int looked) {
        if (!hasPart(a) || !hasPart(b)) {
            return false;
        }
        door.wear[a] = pair / 16;
        door.wear[b] = pair % 16;
        door.press(drawing, FULL, force);
        return door.isUnlike(drawing, looked);
    }

    private boolean canTry(int machine, int a, int b, int most, int force, int looked) {
        return hasPartOf(machine, a) && hasPart(b) && a != b && within(most, 0, MOST_TRIED)
            && within(force, 0, FULL) && within(looked, 0, ALL_LOOKED);
    }

    // ---- the air and the floor

    public int goes(int machine, int rate, int inches) {
        if (!hasMachine(machine) || !within(rate, 1, 99) || !within(inches, 1, FULL)) {
            return NONE;
        }
        door.load(drawing, fleet, machine);
        return door.heightItGoes(drawing, rate * inches);
    }

    public int floor(int height, int rate, int bears, int holes, int seats, int wires, int what) {
        boolean air = within(height, 0, HEIGHTS) && within(rate, 1, 99);
        boolean below = within(bears, 0, 99999) && within(holes, 0, 99) && within(seats, 0, 400);
        if (!air || !below || !within(wires, 0, 40) || !within(what, 0, 1)) {
            return NONE;
        }
        int more = rate * height * 10 - (bears + 50 * holes - 20 * seats);
        if (more <= 0) {
            return 0;
        }
        return what == 0 ? 1 : Math.min(wires, (more + 99) / 100);
    }

    // ---- orders

    public int feed(int a, int b, int c, int d, int e) {
        Tape tape = reader.tape;
        if (tape.length + 20 > BYTES) {
            return NONE;
        }
        tape.put(a);
        tape.put(b);
        tape.put(c);
        tape.put(d);
        tape.put(e);
        return tape.length;
    }

    public int end(int n) {
        if (!within(n, 0, reader.tape.length)) {
            return NONE;
        }
        reader.tape.length = n;
        return n;
    }

    public int order(int kind, int day) {
        if (orderCount >= ORDERS || !within(kind, 0, 2) || !within(day, now, LAST_DAY)) {
            return NONE;
        }
        int fault = reader.compile();
        reader.tape.length = 0;
        if (fault != 0) {
            return -2 - fault;
        }
        Order made = reader.handOver();
        made.kind = kind;
        made.day = day;
        orders[orderCount] = made;
        orderCount++;
        return orderCount - 1;
    }

    public boolean takes(int machine, int order, boolean is) {
        if (!hasMachine(machine) || !within(order, 0, orderCount - 1)) {
            return false;
        }
        Order told = orders[order];
        if (told == null || told.kind != BULLETIN || fleet.hasTaken(machine, order) == is) {
            return false;
        }
        fleet.took[machine] ^= 1 << order;
        return true;
    }

    public int bound(int machine, int what) {
        if (!hasMachine(machine)) {
            return NONE;
        }
        gatherBinding(machine);
        switch (what) {
            case 0:
                return binding.owed;
            case 1:
                return binding.late;
            case 2:
                return binding.heldForce();
            case 3:
                return binding.look;
            case 4:
                return asNumber(binding.grounded || binding.late != 0);
            default:
                return NONE;
        }
    }

    private void gatherBinding(int machine) {
        binding.begin(now, machine, stamps.tasksOf(machine));
        binding.know(fleet, machine);
        for (int i = 0; i < orderCount; i++) {
            Order order = orders[i];
            if (order != null && order.day <= now
                && (order.kind == LAW || order.kind == BULLETIN && fleet.hasTaken(machine, i))) {
                binding.bindBy(order, now - order.day);
            }
        }
    }

    // ---- stamps and what was seen

    public int stamp(int machine, int task, int man, int day) {
        if (!canBeDone(machine, task, day) || !within(man, 0, MEN - 1) || stamps.count >= STAMPS) {
            return NONE;
        }
        return stamps.put(machine * TASKS + task, man, day);
    }

    public int see(int machine, int task, int day, boolean done) {
        if (!canBeDone(machine, task, day) || stamps.seen >= SEEN) {
            return NONE;
        }
        return stamps.putSeen(machine * TASKS + task, day, done);
    }

    public int fewest() {
        truth.learn(stamps);
        return truth.canBe(stamps, NONE, NONE) ? truth.leastFalse(stamps) : NO_WAY;
    }

    public int sure(int stamp) {
        if (!within(stamp, 0, stamps.count - 1)) {
            return NONE;
        }
        truth.learn(stamps);
        if (!truth.canBe(stamps, NONE, NONE)) {
            return NO_WAY;
        }
        if (truth.serves(stamps, stamp) && !truth.canBe(stamps, stamp, NONE)) {
            return 1;
        }
        return truth.mayBeTrue(stamps, stamp) && truth.canBe(stamps, NONE, stamp) ? 0 : 2;
    }

    private boolean canBeDone(int machine, int task, int day) {
        return hasMachine(machine) && within(task, 0, TASKS - 1) && within(day, 0, now);
    }

    // ---- papers

    public int paper(int machine, int day, int needs) {
        boolean names = machine == NONE || hasMachine(machine);
        if (!names || !within(day, 0, now) || papers.count >= PAPERS) {
            return NONE;
        }
        if (!within(needs, 0, (1 << papers.count) - 1)) {
            return NONE;
        }
        return papers.add(machine, day, needs);
    }

    public boolean read(int man, int paper, int day) {
        if (!within(man, 0, MEN - 1) || !within(paper, 0, papers.count - 1)) {
            return false;
        }
        if (!within(day, papers.day[paper], now)) {
            return false;
        }
        papers.putReading(man, paper, day);
        return true;
    }

    public int knew(int man, int paper) {
        if (!within(man, 0, MEN - 1) || !within(paper, 0, papers.count - 1)) {
            return NONE;
        }
        papers.gatherKnowing(man);
        int from = papers.from[paper];
        return from <= now ? from : NO_WAY;
    }

    public int warned(int machine, int day) {
        if (!hasMachine(machine) || !within(day, 0, LAST_DAY)) {
            return NONE;
        }
        int men = 0;
        for (int man = 0; man < MEN; man++) {
            papers.gatherKnowing(man);
            if (papers.warnsOf(machine, day)) {
                men |= 1 << man;
            }
        }
        return men;
    }

    // ---- flights and odds

    public int wears(int part, int flights) {
        if (!hasPart(part) || !within(flights, 0, 9999)) {
            return NONE;
        }
        return swap(drawing.wears, part, flights);
    }

    public int fly(int machine, int n) {
        if (!hasMachine(machine) || !within(n, 0, 9999)) {
            return NONE;
        }
        fleet.addFlights(drawing, machine, n);
        return fleet.flights[machine];
    }

    public int odds(int u, int n) {
        if (!within(u, 0, MILLION) || !within(n, 0, 9999)) {
            return NONE;
        }
        return MILLION - noneAfter(MILLION, u, n);
    }

    public int first(int u, int n, int p) {
        if (!within(u, 0, MILLION) || !within(n, 1, 9999) || !within(p, 0, MILLION)) {
            return NONE;
        }
        int none = MILLION;
        for (int year = 1; year <= 99; year++) {
            none = noneAfter(none, u, n);
            if (MILLION - none >= p) {
                return year;
            }
        }
        return NO_WAY;
    }

    /**
     * The chance of none behind so many flights more. What a flight takes stays the same for
     * many flights on end, so these are taken at once.
     */
    private static int noneAfter(int none, int u, int flights) {
        long chance = none;
        int left = flights;
        for (int n = 0; n < flights && left > 0 && chance > 0 && u > 0; n++) {
            long less = (chance * u + MILLION - 1) / MILLION;
            long leastAlike = (less - 1) * MILLION / u + 1;
            long alike = less > 0 ? (chance - leastAlike) / less + 1 : 1;
            long taken = Math.max(1, Math.min(alike, left));
            chance -= taken * less;
            left -= (int) taken;
        }
        return (int) chance;
    }

    // ---- marks

    public int mark(int k) {
        if (!within(k, 0, MARKS - 1)) {
            return NONE;
        }
        Fleet kept = markedFleets[k];
        if (kept == null) {
            kept = new Fleet();
            markedFleets[k] = kept;
        }
        kept.become(fleet);
        markedDays[k] = now;
        return now;
    }

    public int back(int k) {
        if (!within(k, 0, MARKS - 1)) {
            return NONE;
        }
        Fleet kept = markedFleets[k];
        if (kept == null) {
            return NONE;
        }
        fleet.become(kept);
        now = markedDays[k];
        stamps.forgetFrom(fleet.count);
        papers.forgetFrom(fleet.count);
        return now;
    }

    public int count(int what) {
        switch (what) {
            case 0:
                return now;
            case 1:
                return drawing.count;
            case 2:
                return fleet.count;
            case 3:
                return changes.count;
            case 4:
                return orderCount;
            case 5:
                return stamps.count;
            case 6:
                return stamps.seen;
            case 7:
                return papers.count;
            case 8:
                return reader.tape.length;
            default:
                return NONE;
        }
    }

    // ---- small helpers

    private static boolean within(int n, int least, int most) {
        return n >= least && n <= most;
    }

    private static int asNumber(boolean is) {
        return is ? 1 : 0;
    }

    private static int swap(int[] row, int i, int n) {
        if (!within(i, 0, row.length - 1)) {
            return WRONG;
        }
        int was = row[i];
        row[i] = n;
        return was;
    }

    private boolean hasPart(int part) {
        return within(part, 0, drawing.count - 1);
    }

    private boolean hasMachine(int machine) {
        return within(machine, 0, fleet.count - 1);
    }

    private boolean hasPartOf(int machine, int part) {
        return hasMachine(machine) && hasPart(part);
    }

    /** The parts of the one drawing. */
    private static final class Drawing {
        int count = 0;
        final int[] kind = new int[PARTS];
        final int[] driver = new int[PARTS];
        final int[] gap = new int[PARTS];
        final int[] times = new int[PARTS];
        final int[] by = new int[PARTS];
        final int[] limit = new int[PARTS];
        final int[] strength = new int[PARTS];
        final int[] mark = new int[PARTS];
        final int[] wears = new int[PARTS];

        boolean takesKind(int newKind, int newDriver) {
            if (count >= PARTS) {
                return false;
            }
            if (count == 0) {
                return newKind == HANDLE && newDriver == NONE;
            }
            if (!within(newKind, ROD, WINDOW) || !within(newDriver, 0, count - 1)) {
                return false;
            }
            return newKind == WINDOW ? kind[newDriver] == HOOK : kind[newDriver] <= HOOK;
        }

        int add(int newKind, int newDriver, int newGap, int share, int newLimit, int newStrength, int newMark) {
            if (count >= PARTS) {
                return NONE;
            }
            int part = count;
            kind[part] = newKind;
            driver[part] = newDriver;
            gap[part] = newGap;
            times[part] = share / 10;
            by[part] = share % 10;
            limit[part] = newLimit;
            strength[part] = newStrength;
            mark[part] = newMark;
            count = part + 1;
            return part;
        }
    }

    /** All machines: of each a row of its parts, one behind the other. */
    private static final class Fleet {
        int count = 0;
        final int[] wear = new int[MACHINES * PARTS];
        final int[] set = new int[MACHINES * PARTS];
        final int[] bent = new int[MACHINES * PARTS];
        final int[] place = new int[MACHINES * PARTS];
        final int[] flights = new int[MACHINES];
        final int[] took = new int[MACHINES];

        static int spot(int machine, int part) {
            return machine * PARTS + part;
        }

        int add() {
            if (count >= MACHINES) {
                return NONE;
            }
            count++;
            return count - 1;
        }

        void letGo(int machine) {
            if (within(machine, 0, count - 1)) {
                Arrays.fill(place, spot(machine, 0), spot(machine + 1, 0), 0);
            }
        }

        boolean hasTaken(int machine, int order) {
            return within(machine, 0, count - 1) && (took[machine] >> order & 1) == 1;
        }

        void addFlights(Drawing drawing, int machine, int n) {
            if (!within(machine, 0, count - 1)) {
                return;
            }
            int before = flights[machine];
            int behind = Math.min(before + n, 999999);
            for (int part = 0; part < drawing.count; part++) {
                int every = drawing.wears[part];
                if (every > 0) {
                    int at = spot(machine, part);
                    wear[at] = Math.min(MOST_WEAR, wear[at] + behind / every - before / every);
                }
            }
            flights[machine] = behind;
        }

        int sumOf(int[] row, int machine) {
            int sum = 0;
            for (int at = spot(machine, 0); at < spot(machine + 1, 0); at++) {
                sum += within(at, 0, row.length - 1) ? row[at] : 0;
            }
            return sum;
        }

        /** Rows behind the last machine are all 0, here as there, so machines told later begin anew. */
        void become(Fleet other) {
            count = other.count;
            System.arraycopy(other.wear, 0, wear, 0, wear.length);
            System.arraycopy(other.set, 0, set, 0, set.length);
            System.arraycopy(other.bent, 0, bent, 0, bent.length);
            System.arraycopy(other.place, 0, place, 0, place.length);
            System.arraycopy(other.flights, 0, flights, 0, MACHINES);
            System.arraycopy(other.took, 0, took, 0, MACHINES);
        }
    }

    /** One machine's door as a copy to work on, so that trying it changes nothing. */
    private static final class Door {
        private static final int FREE = 1000000;

        final int[] gap = new int[PARTS];
        final int[] strength = new int[PARTS];
        final int[] mark = new int[PARTS];
        final int[] wear = new int[PARTS];
        final int[] set = new int[PARTS];
        final int[] bent = new int[PARTS];
        final int[] place = new int[PARTS];
        final int[] asked = new int[PARTS];
        final int[] allowed = new int[PARTS];
        final int[] bears = new int[PARTS];

        void load(Drawing drawing, Fleet fleet, int machine) {
            if (!within(machine, 0, MACHINES - 1)) {
                return;
            }
            int from = Fleet.spot(machine, 0);
            System.arraycopy(drawing.gap, 0, gap, 0, PARTS);
            System.arraycopy(drawing.strength, 0, strength, 0, PARTS);
            System.arraycopy(drawing.mark, 0, mark, 0, PARTS);
            System.arraycopy(fleet.wear, from, wear, 0, PARTS);
            System.arraycopy(fleet.set, from, set, 0, PARTS);
            System.arraycopy(fleet.bent, from, bent, 0, PARTS);
            System.arraycopy(fleet.place, from, place, 0, PARTS);
        }

        void save(Fleet fleet, int machine) {
            if (!within(machine, 0, MACHINES - 1)) {
                return;
            }
            int to = Fleet.spot(machine, 0);
            System.arraycopy(bent, 0, fleet.bent, to, PARTS);
            System.arraycopy(place, 0, fleet.place, to, PARTS);
        }

        /** A push, but for what bends by it. */
        void press(Drawing drawing, int travel, int force) {
            int h = Math.min(travel, farthest(drawing, force));
            asked[HANDLE] = h;
            place[HANDLE] = h;
            for (int part = 1; part < drawing.count; part++) {
                int driver = drawing.driver[part];
                int by = drawing.by[part];
                if (driver < 0 || driver >= part || by < 1) {
                    continue;
                }
                int moved = Math.max(0, place[driver] - gap[part] - wear[part]);
                asked[part] = moved * drawing.times[part] / by;
                place[part] = Math.max(0, Math.min(asked[part], drawing.limit[part]) - bent[part]);
            }
        }

        /**
         * The greatest place of the handle with which nothing but a weak rod is asked beyond its
         * limit. No place shrinks when the handle goes farther, so what each part allows its
         * driver is found from the last part down to the handle, without trying each h.
         */
        private int farthest(Drawing drawing, int force) {
            Arrays.fill(allowed, FREE);
            for (int part = drawing.count - 1; part > 0; part--) {
                int driver = drawing.driver[part];
                int times = drawing.times[part];
                int most = mostAsked(drawing, part, force);
                if (most < FREE && times > 0 && driver >= 0 && driver < part) {
                    int moved = ((most + 1) * drawing.by[part] - 1) / times;
                    allowed[driver] = Math.min(allowed[driver], gap[part] + wear[part] + moved);
                }
            }
            return Math.min(drawing.limit[HANDLE], allowed[HANDLE]);
        }

        private int mostAsked(Drawing drawing, int part, int force) {
            boolean mayBend = drawing.kind[part] == ROD && strength[part] <= force;
            int most = mayBend ? FREE : drawing.limit[part];
            if (allowed[part] < drawing.limit[part] - bent[part]) {
                most = Math.min(most, allowed[part] + bent[part]);
            }
            return most;
        }

        void bend(Drawing drawing) {
            for (int part = 1; part < drawing.count; part++) {
                int beyond = asked[part] - drawing.limit[part];
                if (drawing.kind[part] == ROD && beyond > 0) {
                    bent[part] = Math.min(9999, bent[part] + beyond);
                }
            }
        }

        boolean isOver(Drawing drawing, int part) {
            if (!within(part, 0, PARTS - 1)) {
                return false;
            }
            int driver = drawing.driver[part];
            boolean byHook = drawing.kind[part] == WINDOW && within(driver, 0, PARTS - 1);
            int reached = byHook ? place[driver] : place[part];
            return reached >= mark[part] + set[part];
        }

        boolean isShut(Drawing drawing) {
            boolean hooks = false;
            for (int part = 0; part < drawing.count; part++) {
                if (drawing.kind[part] == HOOK) {
                    hooks = true;
                    if (!isOver(drawing, part)) {
                        return false;
                    }
                }
            }
            return hooks;
        }

        boolean looksShut(Drawing drawing, int looked) {
            for (int part = 0; part < drawing.count; part++) {
                if ((looked & lookBit(drawing.kind[part])) != 0 && !isOver(drawing, part)) {
                    return false;
                }
            }
            return true;
        }

        /** The bit by which parts of a kind are looked at; rods and hooks can't be. */
        private static int lookBit(int kind) {
            if (kind == HANDLE) {
                return 1;
            }
            return kind > HOOK ? 1 << kind - HOOK : 0;
        }

        boolean isUnlike(Drawing drawing, int looked) {
            return looksShut(drawing, looked) && !isShut(drawing);
        }

        int heightItGoes(Drawing drawing, int pressedByStep) {
            int left = gatherHooks(drawing);
            for (int height = 0; height <= HEIGHTS; height++) {
                left = holdAgainst(height * pressedByStep, left);
                if (left == 0) {
                    return height;
                }
            }
            return NO_WAY;
        }

        private int gatherHooks(Drawing drawing) {
            int hooks = 0;
            for (int part = 0; part < drawing.count; part++) {
                if (drawing.kind[part] == HOOK && isOver(drawing, part)) {
                    bears[hooks] = strength[part] + 5 * (place[part] - mark[part] - set[part]);
                    hooks++;
                }
            }
            return hooks;
        }

        /** Of so many hooks those that still hold, moved to the front: how many. */
        private int holdAgainst(int load, int hooks) {
            int left = hooks;
            for (int round = 0; round < PARTS && left > 0; round++) {
                int each = (load + left - 1) / left;
                int kept = 0;
                for (int i = 0; i < left && i < PARTS; i++) {
                    if (bears[i] >= each) {
                        bears[kept] = bears[i];
                        kept++;
                    }
                }
                if (kept == left) {
                    return left;
                }
                left = kept;
            }
            return left;
        }
    }

    /** Changes of parts that are thought of, not made. */
    private static final class Changes {
        int count = 0;
        final int[] part = new int[CHANGES];
        final int[] gap = new int[CHANGES];
        final int[] mark = new int[CHANGES];
        final int[] strength = new int[CHANGES];
        final int[] coins = new int[CHANGES];

        int add(int newPart, int newGap, int newMark, int newStrength, int newCoins) {
            if (count >= CHANGES) {
                return NONE;
            }
            int at = count;
            part[at] = newPart;
            gap[at] = newGap;
            mark[at] = newMark;
            strength[at] = newStrength;
            coins[at] = newCoins;
            count = at + 1;
            return at;
        }

        private int coinsOf(int chosen) {
            int sum = 0;
            for (int i = 0; i < count; i++) {
                sum += (chosen >> i & 1) * coins[i];
            }
            return sum;
        }

        boolean isCheaper(int chosen, int best) {
            int costs = coinsOf(chosen);
            int bestCosts = coinsOf(best);
            if (costs != bestCosts) {
                return costs < bestCosts;
            }
            int many = Integer.bitCount(chosen);
            int bestMany = Integer.bitCount(best);
            return many < bestMany || many == bestMany && chosen < best;
        }

        void applyTo(Door door, int chosen) {
            for (int i = 0; i < count; i++) {
                int at = part[i];
                if ((chosen >> i & 1) == 1 && within(at, 0, PARTS - 1)) {
                    door.gap[at] = Math.max(0, door.gap[at] - gap[i]);
                    door.mark[at] += mark[i];
                    door.strength[at] += strength[i];
                }
            }
        }
    }

    /** The bytes that were fed, and the signs that they make. */
    private static final class Tape {
        static final int END = -1;
        static final int NUMBER = 256;
        static final int LESS_EQUAL = 257;
        static final int MORE_EQUAL = 258;
        static final int UNKNOWN = 259;
        /** The words of WORDS are signs from here on, in their order. */
        static final int MUST = 260;
        static final int GROUND = 263;
        static final int HANDLES = 264;
        static final int WINDOWS = 267;
        static final int DAY = 268;
        static final int SINCE = 274;
        static final int WITHIN = 275;
        static final int IF = 276;
        static final int OR = 277;
        static final int AND = 278;
        static final int NOT = 279;

        /** Each with a blank behind it. */
        private static final String WORDS = "must force look ground handle vent lamp window day machine flights bent wear done since within if or and not ";
        private static final int MOST_DIGITS = 5;

        int length = 0;
        int signs = 0;
        private int next = 0;
        private final int[] bytes = new int[BYTES];
        final int[] sign = new int[BYTES + 1];
        final int[] place = new int[BYTES + 1];
        /** What a NUMBER is: NONE, if it has too many digits. */
        final int[] number = new int[BYTES + 1];

        void put(int four) {
            for (int shift = 24; shift >= 0 && length < BYTES; shift -= 8) {
                bytes[length] = four >>> shift & 255;
                length++;
            }
        }

        /** Finds the signs, END the last of them. */
        void split() {
            next = 0;
            signs = 0;
            for (int n = 0; n <= BYTES; n++) {
                skipBlanks();
                place[n] = next;
                sign[n] = splitOne(n);
                signs = n + 1;
                if (sign[n] == END) {
                    return;
                }
            }
        }

        private int byteAt(int i) {
            return i >= 0 && i < length && i < BYTES ? bytes[i] : END;
        }

        private void skipBlanks() {
            for (int n = 0; n < BYTES && byteAt(next) == ' '; n++) {
                next++;
            }
        }

        private int splitOne(int n) {
            int first = byteAt(next);
            if (isDigit(first)) {
                number[n] = splitNumber();
                return NUMBER;
            }
            if (isLetter(first)) {
                return splitWord();
            }
            next += first == END ? 0 : 1;
            if ((first == '<' || first == '>') && byteAt(next) == '=') {
                next++;
                return first == '<' ? LESS_EQUAL : MORE_EQUAL;
            }
            return first;
        }

        private int splitNumber() {
            int is = 0;
            for (int n = 0; n < BYTES && isDigit(byteAt(next)); n++) {
                is = n < MOST_DIGITS ? is * 10 + byteAt(next) - '0' : NONE;
                next++;
            }
            return is;
        }

        private int splitWord() {
            int from = next;
            for (int n = 0; n < BYTES && isLetter(byteAt(next)); n++) {
                next++;
            }
            int word = 0;
            int begun = 0;
            for (int i = 0; i < WORDS.length(); i++) {
                if (WORDS.charAt(i) == ' ') {
                    if (i - begun == next - from && isSame(begun, from)) {
                        return MUST + word;
                    }
                    word++;
                    begun = i + 1;
                }
            }
            return UNKNOWN;
        }

        /** Whether the word of WORDS from begun on stands on the tape up to the next byte. */
        private boolean isSame(int begun, int from) {
            for (int i = from; i < next; i++) {
                int at = begun + i - from;
                if (at >= WORDS.length() || WORDS.charAt(at) != byteAt(i)) {
                    return false;
                }
            }
            return true;
        }

        private static boolean isDigit(int sign) {
            return sign >= '0' && sign <= '9';
        }

        private static boolean isLetter(int sign) {
            return sign >= 'a' && sign <= 'z';
        }
    }

    /**
     * An order that was read: its clauses as rows, their sums and tests as ranges of one code in
     * which what is reckoned with stands ahead of the sign (numbers are 0 or more, all else below).
     */
    private static final class Order {
        private static final int CLAUSES = 12;
        private static final int MUST = 0;
        private static final int FORCE = 1;
        private static final int LOOK = 2;

        /** The words day to since are -1 to -7. */
        private static final int LAST_WORD = -7;
        private static final int NOT = -8;
        private static final int PLUS = -9;
        private static final int MINUS = -10;
        private static final int BELOW = -11;
        private static final int AT_MOST = -12;
        private static final int EQUAL = -13;
        private static final int AT_LEAST = -14;
        private static final int ABOVE = -15;
        private static final int AND = -16;
        private static final int OR = -17;

        int kind = 0;
        int day = 0;
        int clauses = 0;
        int length = 0;
        final int[] head = new int[CLAUSES];
        final int[] number = new int[CLAUSES];
        final int[] days = new int[CLAUSES];
        final int[] testFrom = new int[CLAUSES];
        final int[] testTo = new int[CLAUSES];
        final int[] code = new int[BYTES];

        void clear() {
            clauses = 0;
            length = 0;
        }

        void emit(int sign) {
            if (length < BYTES) {
                code[length] = sign;
                length++;
            }
        }
    }

    /** Reads the tape into an order, or finds its first fault. */
    private static final class Reader {
        private static final int OUT_OF_PLACE = 0;
        private static final int BAD_NUMBER = 1;
        private static final int TOO_DEEP = 2;
        private static final int TOO_MANY = 3;
        private static final int TOO_LONG = 4;

        private static final int MOST_DEEP = 10;
        private static final int MOST_VALUES = 60;

        final Tape tape = new Tape();
        private Order order = new Order();
        private int at = 0;
        private int sign = Tape.END;
        private int number = 0;
        private int values = 0;
        private int fault = 0;

        /** The order that was read last; the next one is read into another. */
        Order handOver() {
            Order made = order;
            order = new Order();
            return made;
        }

        /** 0, or the fault. */
        int compile() {
            tape.split();
            order.clear();
            at = NONE;
            values = 0;
            fault = 0;
            step();
            for (int n = 0; n <= Order.CLAUSES && readClause(n) && sign != Tape.END; n++) {
                if (sign != ';') {
                    fail(OUT_OF_PLACE);
                    return fault;
                }
                step();
            }
            return fault;
        }

        private boolean fail(int why) {
            fault = 1 + 8 * tape.place[at] + why;
            return false;
        }

        private void step() {
            // END, the last sign, is never left
            if (at + 1 < tape.signs && at < BYTES) {
                at++;
            }
            if (at < 0) {
                at = 0;
            }
            sign = tape.sign[at];
            number = tape.number[at];
        }

        private boolean readClause(int n) {
            if (!within(sign, Tape.MUST, Tape.GROUND)) {
                return fail(OUT_OF_PLACE);
            }
            if (n >= Order.CLAUSES) {
                return fail(TOO_LONG);
            }
            int head = sign - Tape.MUST;
            order.head[n] = head;
            step();
            if (!readBody(head, n)) {
                return false;
            }
            order.testFrom[n] = order.length;
            if (sign == Tape.IF) {
                step();
                if (!readTest(0)) {
                    return false;
                }
            }
            order.testTo[n] = order.length;
            order.clauses = n + 1;
            return true;
        }

        private boolean readBody(int head, int n) {
            switch (head) {
                case Order.MUST:
                    return readMust(n);
                case Order.FORCE:
                    order.number[n] = order.length;
                    return readSum();
                case Order.LOOK:
                    return readLook(n);
                default:
                    return true;
            }
        }

        private boolean readMust(int n) {
            if (!isNumberTo(TASKS - 1)) {
                return false;
            }
            order.number[n] = number;
            step();
            if (sign != Tape.WITHIN) {
                return fail(OUT_OF_PLACE);
            }
            step();
            if (!isNumberTo(999)) {
                return false;
            }
            order.days[n] = number;
            step();
            return true;
        }

        private boolean isNumberTo(int most) {
            if (sign != Tape.NUMBER) {
                return fail(OUT_OF_PLACE);
            }
            return within(number, 0, most) || fail(BAD_NUMBER);
        }

        private boolean readLook(int n) {
            if (!within(sign, Tape.HANDLES, Tape.WINDOWS)) {
                return fail(OUT_OF_PLACE);
            }
            order.number[n] = 1 << sign - Tape.HANDLES;
            step();
            return true;
        }

        /** Facts joined by and, each such part joined by or: one or waits until its right side is whole. */
        private boolean readTest(int depth) {
            if (!readFact(depth)) {
                return false;
            }
            boolean orWaits = false;
            for (int n = 0; n < BYTES && (sign == Tape.AND || sign == Tape.OR); n++) {
                boolean and = sign == Tape.AND;
                if (!and && orWaits) {
                    order.emit(Order.OR);
                }
                orWaits = orWaits || !and;
                step();
                if (!readFact(depth)) {
                    return false;
                }
                if (and) {
                    order.emit(Order.AND);
                }
            }
            if (orWaits) {
                order.emit(Order.OR);
            }
            return true;
        }

        private boolean readFact(int depth) {
            if (sign == Tape.NOT || sign == '[') {
                return readInner(depth + 1);
            }
            if (!readSum()) {
                return false;
            }
            int comparing = comparing();
            if (comparing == 0) {
                return fail(OUT_OF_PLACE);
            }
            if (values >= MOST_VALUES) {
                return fail(TOO_MANY);
            }
            values++;
            step();
            if (!readSum()) {
                return false;
            }
            order.emit(comparing);
            return true;
        }

        /** What stands behind not, or in brackets. */
        private boolean readInner(int depth) {
            if (depth > MOST_DEEP) {
                return fail(TOO_DEEP);
            }
            boolean not = sign == Tape.NOT;
            step();
            if (not ? !readFact(depth) : !readTest(depth)) {
                return false;
            }
            if (not) {
                order.emit(Order.NOT);
                return true;
            }
            if (sign != ']') {
                return fail(OUT_OF_PLACE);
            }
            step();
            return true;
        }

        private int comparing() {
            switch (sign) {
                case '<':
                    return Order.BELOW;
                case Tape.LESS_EQUAL:
                    return Order.AT_MOST;
                case '=':
                    return Order.EQUAL;
                case Tape.MORE_EQUAL:
                    return Order.AT_LEAST;
                case '>':
                    return Order.ABOVE;
                default:
                    return 0;
            }
        }

        private boolean readSum() {
            if (!readValue()) {
                return false;
            }
            for (int n = 0; n < BYTES && (sign == '+' || sign == '-'); n++) {
                int joining = sign == '+' ? Order.PLUS : Order.MINUS;
                step();
                if (!readValue()) {
                    return false;
                }
                order.emit(joining);
            }
            return true;
        }

        private boolean readValue() {
            boolean word = within(sign, Tape.DAY, Tape.SINCE);
            if (sign != Tape.NUMBER && !word) {
                return fail(OUT_OF_PLACE);
            }
            if (!word && number == NONE) {
                return fail(BAD_NUMBER);
            }
            if (values >= MOST_VALUES) {
                return fail(TOO_MANY);
            }
            values++;
            order.emit(word ? Tape.DAY - 1 - sign : number);
            step();
            return true;
        }
    }

    /** What the orders in force bind one machine to. */
    private static final class Binding {
        private static final int STACK = 64;
        private static final int FLIGHTS = 2;
        private static final int BENT = 3;
        private static final int WEAR = 4;
        private static final int DONE = 5;
        private static final int SINCE = 6;

        int owed = 0;
        int late = 0;
        int look = 0;
        boolean grounded = false;
        private int force = FULL;
        private int done = 0;
        private final int[] facts = new int[SINCE + 1];
        private final int[] stack = new int[STACK];

        void begin(int day, int machine, int tasksDone) {
            owed = 0;
            late = 0;
            look = 0;
            grounded = false;
            force = FULL;
            done = tasksDone;
            facts[0] = day;
            facts[1] = machine;
            facts[DONE] = Integer.bitCount(tasksDone);
        }

        void know(Fleet fleet, int machine) {
            if (!within(machine, 0, MACHINES - 1)) {
                return;
            }
            facts[FLIGHTS] = fleet.flights[machine];
            facts[BENT] = fleet.sumOf(fleet.bent, machine);
            facts[WEAR] = fleet.sumOf(fleet.wear, machine);
        }

        int heldForce() {
            return Math.max(0, force);
        }

        void bindBy(Order order, int daysGone) {
            facts[SINCE] = Math.max(0, daysGone);
            for (int n = 0; n < order.clauses && n < Order.CLAUSES; n++) {
                int from = order.testFrom[n];
                int to = order.testTo[n];
                if (from == to || valueOf(order, from, to) != 0) {
                    bindByClause(order, n, daysGone);
                }
            }
        }

        private void bindByClause(Order order, int n, int daysGone) {
            int number = order.number[n];
            switch (order.head[n]) {
                case Order.MUST:
                    int task = 1 << number & ~done;
                    owed |= task;
                    late |= daysGone > order.days[n] ? task : 0;
                    break;
                case Order.FORCE:
                    force = Math.min(force, valueOf(order, number, order.testFrom[n]));
                    break;
                case Order.LOOK:
                    look |= number;
                    break;
                default:
                    grounded = true;
                    break;
            }
        }

        private int valueOf(Order order, int from, int to) {
            int top = 0;
            for (int i = Math.max(0, from); i < to && i < BYTES; i++) {
                int sign = order.code[i];
                if (sign >= Order.LAST_WORD) {
                    if (top < STACK) {
                        stack[top] = sign >= 0 ? sign : facts[-1 - sign];
                        top++;
                    }
                } else if (sign == Order.NOT) {
                    if (top > 0) {
                        stack[top - 1] = 1 - stack[top - 1];
                    }
                } else if (top > 1) {
                    top--;
                    stack[top - 1] = joined(sign, stack[top - 1], stack[top]);
                }
            }
            return stack[0];
        }

        private static int joined(int sign, int a, int b) {
            switch (sign) {
                case Order.PLUS:
                    return a + b;
                case Order.MINUS:
                    return a - b;
                case Order.BELOW:
                    return asNumber(a < b);
                case Order.AT_MOST:
                    return asNumber(a <= b);
                case Order.EQUAL:
                    return asNumber(a == b);
                case Order.AT_LEAST:
                    return asNumber(a >= b);
                case Order.ABOVE:
                    return asNumber(a > b);
                case Order.AND:
                    return a & b;
                default:
                    return a | b;
            }
        }
    }

    /**
     * Stamps and what was seen. A work is a task of a machine; a turn is a man's day, called by
     * the least stamp of it. Of each work and each turn the stamps are a chain, downwards.
     */
    private static final class Stamps {
        static final int WORKS = MACHINES * TASKS;

        int count = 0;
        final int[] work = new int[STAMPS];
        final int[] man = new int[STAMPS];
        final int[] day = new int[STAMPS];
        final int[] turnOf = new int[STAMPS];
        final int[] nextOfWork = new int[STAMPS];
        final int[] nextOfTurn = new int[STAMPS];
        final int[] lastOfWork = new int[WORKS];
        final int[] lastOfTurn = new int[STAMPS];
        int seen = 0;
        final int[] seenWork = new int[SEEN];
        final int[] seenDay = new int[SEEN];
        final boolean[] seenDone = new boolean[SEEN];

        Stamps() {
            Arrays.fill(lastOfWork, NONE);
        }

        int put(int newWork, int newMan, int newDay) {
            if (count >= STAMPS || !within(newWork, 0, WORKS - 1)) {
                return NONE;
            }
            int at = count;
            int turn = findTurn(newMan, newDay);
            work[at] = newWork;
            man[at] = newMan;
            day[at] = newDay;
            turnOf[at] = turn;
            nextOfWork[at] = lastOfWork[newWork];
            lastOfWork[newWork] = at;
            nextOfTurn[at] = turn < at ? lastOfTurn[turn] : NONE;
            lastOfTurn[turn] = at;
            count = at + 1;
            return at;
        }

        private int findTurn(int itsMan, int itsDay) {
            for (int i = 0; i < count; i++) {
                if (man[i] == itsMan && day[i] == itsDay) {
                    return i;
                }
            }
            return count;
        }

        int putSeen(int itsWork, int itsDay, boolean done) {
            if (seen >= SEEN) {
                return NONE;
            }
            seenWork[seen] = itsWork;
            seenDay[seen] = itsDay;
            seenDone[seen] = done;
            seen++;
            return seen;
        }

        /** The tasks of a machine that have a stamp, as bits. */
        int tasksOf(int machine) {
            int tasks = 0;
            for (int task = 0; task < TASKS; task++) {
                int at = machine * TASKS + task;
                if (within(at, 0, WORKS - 1) && lastOfWork[at] != NONE) {
                    tasks |= 1 << task;
                }
            }
            return tasks;
        }

        /** Machines from this number on are gone: the stamps that are left move up. */
        void forgetFrom(int machine) {
            int stamped = count;
            count = 0;
            Arrays.fill(lastOfWork, NONE);
            for (int i = 0; i < stamped && i < STAMPS; i++) {
                if (work[i] < machine * TASKS) {
                    put(work[i], man[i], day[i]);
                }
            }
            int sights = seen;
            seen = 0;
            for (int i = 0; i < sights && i < SEEN; i++) {
                if (seenWork[i] < machine * TASKS) {
                    putSeen(seenWork[i], seenDay[i], seenDone[i]);
                }
            }
        }
    }

    /**
     * Which stamps can be false. Of each work that was seen done one stamp must be true; these
     * are chosen so that no turn has more than two, by moving earlier choices where one is full.
     * All else that may be true can fill the turns up then.
     */
    private static final class Truth {
        private static final int TWO = 2;

        private int barred = NONE;
        private final int[] lastNotDone = new int[Stamps.WORKS];
        private final int[] firstDone = new int[Stamps.WORKS];
        private final int[] chosen = new int[Stamps.WORKS];
        private final int[] queue = new int[Stamps.WORKS];
        private final int[] taken = new int[STAMPS];
        private final int[] reachedBy = new int[STAMPS];

        void learn(Stamps stamps) {
            Arrays.fill(lastNotDone, NONE);
            Arrays.fill(firstDone, NEVER);
            for (int i = 0; i < stamps.seen && i < SEEN; i++) {
                int work = stamps.seenWork[i];
                int day = stamps.seenDay[i];
                if (!within(work, 0, Stamps.WORKS - 1)) {
                    continue;
                }
                if (stamps.seenDone[i]) {
                    firstDone[work] = Math.min(firstDone[work], day);
                } else {
                    lastNotDone[work] = Math.max(lastNotDone[work], day);
                }
            }
        }

        boolean mayBeTrue(Stamps stamps, int stamp) {
            return within(stamp, 0, STAMPS - 1) && stamps.day[stamp] > lastNotDone[stamps.work[stamp]];
        }

        /** Whether the stamp can be the one by which its work, seen done, was done. */
        boolean serves(Stamps stamps, int stamp) {
            if (!mayBeTrue(stamps, stamp)) {
                return false;
            }
            int done = firstDone[stamps.work[stamp]];
            return done != NEVER && stamps.day[stamp] <= done;
        }

        int leastFalse(Stamps stamps) {
            Arrays.fill(taken, 0);
            int untrue = 0;
            for (int i = 0; i < stamps.count; i++) {
                int turn = stamps.turnOf[i];
                if (mayBeTrue(stamps, i) && taken[turn] < TWO) {
                    taken[turn]++;
                } else {
                    untrue++;
                }
            }
            return untrue;
        }

        /** Whether some set can be, with one stamp in it and another not in it (or NONE). */
        boolean canBe(Stamps stamps, int untrue, int trueOne) {
            Arrays.fill(chosen, NONE);
            Arrays.fill(taken, 0);
            barred = untrue;
            int met = NONE;
            if (within(trueOne, 0, STAMPS - 1)) {
                taken[stamps.turnOf[trueOne]] = 1;
                met = serves(stamps, trueOne) ? stamps.work[trueOne] : NONE;
            }
            for (int work = 0; work < Stamps.WORKS; work++) {
                if (firstDone[work] != NEVER && work != met && !choose(stamps, work)) {
                    return false;
                }
            }
            return true;
        }

        private boolean choose(Stamps stamps, int work) {
            Arrays.fill(reachedBy, NONE);
            queue[0] = work;
            int size = 1;
            for (int q = 0; q < size && q < queue.length; q++) {
                int stamp = stamps.lastOfWork[queue[q]];
                for (int n = 0; n < STAMPS && stamp >= 0; n++) {
                    int turn = stamps.turnOf[stamp];
                    if (stamp != barred && reachedBy[turn] == NONE && serves(stamps, stamp)) {
                        reachedBy[turn] = stamp;
                        if (taken[turn] < TWO) {
                            moveChoices(stamps, turn);
                            return true;
                        }
                        size = queueHolders(stamps, turn, size);
                    }
                    stamp = stamps.nextOfWork[stamp];
                }
            }
            return false;
        }

        /** The works whose chosen stamp is of this turn could be done by others. */
        private int queueHolders(Stamps stamps, int turn, int queued) {
            int size = queued;
            int stamp = stamps.lastOfTurn[turn];
            for (int n = 0; n < STAMPS && stamp >= 0; n++) {
                int work = stamps.work[stamp];
                if (chosen[work] == stamp && size < queue.length) {
                    queue[size] = work;
                    size++;
                }
                stamp = stamps.nextOfTurn[stamp];
            }
            return size;
        }

        private void moveChoices(Stamps stamps, int lastTurn) {
            taken[lastTurn]++;
            int turn = lastTurn;
            for (int n = 0; n < STAMPS && reachedBy[turn] >= 0; n++) {
                int stamp = reachedBy[turn];
                int work = stamps.work[stamp];
                int before = chosen[work];
                chosen[work] = stamp;
                if (before == NONE) {
                    return;
                }
                turn = stamps.turnOf[before];
            }
        }
    }

    private static final class Papers {
        int count = 0;
        final int[] machine = new int[PAPERS];
        final int[] day = new int[PAPERS];
        final int[] from = new int[PAPERS];
        private final int[] needs = new int[PAPERS];
        private final int[] readOn = new int[MEN * PAPERS];

        Papers() {
            Arrays.fill(readOn, NEVER);
        }

        int add(int names, int itsDay, int itsNeeds) {
            if (count >= PAPERS) {
                return NONE;
            }
            int paper = count;
            machine[paper] = names;
            day[paper] = itsDay;
            needs[paper] = itsNeeds;
            count = paper + 1;
            return paper;
        }

        void putReading(int man, int paper, int itsDay) {
            int at = man * PAPERS + paper;
            if (within(at, 0, readOn.length - 1)) {
                readOn[at] = Math.min(readOn[at], itsDay);
            }
        }

        /** From which day on a man knew of each paper: papers need none but earlier ones. */
        void gatherKnowing(int man) {
            if (!within(man, 0, MEN - 1)) {
                return;
            }
            for (int paper = 0; paper < count; paper++) {
                int since = readOn[man * PAPERS + paper];
                for (int other = 0; other < paper; other++) {
                    if ((needs[paper] >> other & 1) == 1) {
                        since = Math.max(since, from[other]);
                    }
                }
                from[paper] = since;
            }
        }

        boolean warnsOf(int itsMachine, int itsDay) {
            for (int paper = 0; paper < count; paper++) {
                if (machine[paper] == itsMachine && from[paper] <= itsDay) {
                    return true;
                }
            }
            return false;
        }

        void forgetFrom(int firstGone) {
            for (int paper = 0; paper < count; paper++) {
                if (machine[paper] >= firstGone) {
                    machine[paper] = NONE;
                }
            }
        }
    }
}
