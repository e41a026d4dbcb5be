import java.util.ArrayList;

/** Summer kept in rock: bores, houses, a machine, rules, a tank and gauges, hour by hour. */
public final class RockHeat {
    private static final int NOBODY = -1;
    private static final int OTHER = -2;
    private static final int STATE = -3;
    private static final int BELOW = -4;
    private static final int ROOM = -6;
    private static final long LONG_REFUSAL = 4000000000000000000L;
    private static final int COLD_REFUSAL = 1000000000;

    private static final int DAY = 24;
    private static final int HOURS_MOST = 8000;
    private static final int DAYS_MOST = 333;
    private static final int NEED_HOUR_MOST = 9999;
    private static final int BORES_MOST = 8;
    private static final int RINGS_MOST = 8;
    private static final int NEAR = 9;
    private static final int HOUSES_MOST = 20;
    private static final int MILD = 15;
    private static final int COLD_DAYS = 12;
    private static final int POINTS_MOST = 8;
    private static final int PLAIN_LIFT = 100;
    private static final int RULES_MOST = 30;
    private static final int TAPE_MOST = 60;
    private static final int WORTH_MOST = 99999;
    private static final int READINGS_MOST = 20;
    private static final int MIND_MOST = 500;
    private static final int FEW_HOURS_MOST = 100;
    private static final int CRATES_MOST = 9;
    private static final int CRATES_MOVED = 3;
    private static final int THOUSANDTHS_LEAST = -100000;
    private static final int THOUSANDTHS_MOST = 200000;

    private static final int GIVE = 0;
    private static final int TAKE = 1;

    // The places of what is TOLD of all HOURS.
    private static final int TAKEN = 0;
    private static final int WASTED = 1;
    private static final int GIVEN = 2;
    private static final int LIFTED = 3;
    private static final int POWER = 4;
    private static final int BOUGHT = 5;
    private static final int COST = 6;
    private static final int LOST = 7;
    private static final int CARRIED = 8;
    private static final int TOTALS = 9;

    private static final String LETTERS = "hdpcntrbf";
    private static final String OPERATORS = "+-*/<=>";
    private static final int FIRST_LETTER = -1;
    private static final int FIRST_OPERATOR = -10;
    private static final int BRACKETS_DEEP = 5;
    private static final int DIGITS_MOST = 5;
    private static final int END = -1;
    private static final int NO_FAULT = -1;
    private static final long HELD = 1000000000L;
    private static final long ABOVE_ALL = 4000000000000000000L;

    private final Town town = new Town();
    private final Table table = new Table();
    private final Rules rules = new Rules();
    private final Tape tape = new Tape();
    private final Tank tank = new Tank();
    private final Ground ground = new Ground(town, table, rules);
    private final Ground mind = new Ground(town, table, rules);
    private final ArrayList<Reading> readings = new ArrayList<>();
    private final int[] refusals = new int[7];
    private long coldest;
    private int coldestHour;

    public RockHeat() {
    }

    public int hours(int n) {
        int refusal = beyond(n, 1, HOURS_MOST - ground.hour);
        if (refusal != 0) {
            return refuse(refusal);
        }
        for (int i = 0; i < n; i++) {
            ground.pass();
        }
        return ground.hour;
    }

    public int bore(int place, int rings, int hold, int step, int warmth) {
        if (place < 0 || rings < 1 || hold < 100 || step < 0 || warmth < 0) {
            return refuse(BELOW);
        }
        int number = ground.bores.size();
        if (place > 9999 || rings > RINGS_MOST || hold > 9999 || step > 999 || warmth > 99
                || number >= BORES_MOST) {
            return refuse(ROOM);
        }
        ground.bores.add(new Bore(number, place, rings, hold, step, warmth));
        mind.bores.add(new Bore(number, place, rings, hold, step, warmth));
        return number;
    }

    public int soil(int bore, int lead, int water) {
        Bore asked = ground.find(bore);
        if (asked == null) {
            return refuse(NOBODY);
        }
        if (lead < 0 || water < 0) {
            return refuse(BELOW);
        }
        if (lead > 999 || water > 100) {
            return refuse(ROOM);
        }
        int was = asked.lead;
        asked.lead = lead;
        asked.water = water;
        return was;
    }

    public int share(int v) {
        int refusal = beyond(v, 0, 999);
        if (refusal != 0) {
            return refuse(refusal);
        }
        int was = ground.share;
        ground.share = v;
        return was;
    }

    public int open(int bore, boolean on) {
        Bore asked = ground.find(bore);
        if (asked == null) {
            return refuse(NOBODY);
        }
        if (asked.open == on) {
            return 0;
        }
        asked.open = on;
        return 1;
    }

    public long heat(int bore, int ring) {
        Ring asked = findRing(bore, ring);
        return asked == null ? refuseLong(NOBODY) : asked.heat;
    }

    public long warmth(int bore, int ring) {
        Ring asked = findRing(bore, ring);
        return asked == null ? refuseLong(NOBODY) : asked.warm;
    }

    public int frozen(int bore) {
        Bore asked = ground.find(bore);
        if (asked == null) {
            return refuse(NOBODY);
        }
        return asked.isFrozen() ? 1 : 0;
    }

    public int house(int base, int more, int wake) {
        if (base < 0 || more < 0 || wake < 0) {
            return refuse(BELOW);
        }
        int number = town.houses.size();
        if (base > 9999 || more > 999 || wake > 16777215 || number >= HOUSES_MOST) {
            return refuse(ROOM);
        }
        town.houses.add(new House(base, more, wake));
        return number;
    }

    public int join(int house, int day) {
        if (house < 0 || house >= town.houses.size()) {
            return refuse(NOBODY);
        }
        House asked = town.houses.get(house);
        if (asked.told) {
            return refuse(STATE);
        }
        int refusal = beyond(day, ground.hour / DAY, DAYS_MOST);
        if (refusal != 0) {
            return refuse(refusal);
        }
        asked.told = true;
        asked.day = day;
        return 1;
    }

    public int cold(int i, int degrees) {
        int refusal = firstOf(beyond(i, 0, COLD_DAYS - 1), beyond(degrees, -40, 40));
        if (refusal != 0) {
            return COLD_REFUSAL - refuse(refusal);
        }
        return replace(town.colds, i, degrees);
    }

    public long need(int hour) {
        int refusal = beyond(hour, 0, NEED_HOUR_MOST);
        return refusal != 0 ? refuseLong(refusal) : town.needOf(hour);
    }

    public int point(int warmth, int lift) {
        if (warmth < -20 || lift < 100 || !table.isAboveLast(warmth)) {
            return refuse(BELOW);
        }
        if (warmth > 99 || lift > 999 || table.size >= POINTS_MOST) {
            return refuse(ROOM);
        }
        table.addPoint(warmth, lift);
        return table.size;
    }

    public int untable() {
        int had = table.size;
        table.size = 0;
        return had;
    }

    public int lift(int warmth) {
        int refusal = beyond(warmth, THOUSANDTHS_LEAST, THOUSANDTHS_MOST);
        return refusal != 0 ? refuse(refusal) : (int) table.liftAt(warmth);
    }

    public int price(int hour, int v) {
        int refusal = firstOf(beyond(hour, 0, DAY - 1), beyond(v, 0, 999));
        return refusal != 0 ? refuse(refusal) : replace(town.prices, hour, v);
    }

    public int sun(int hour, int v) {
        int refusal = firstOf(beyond(hour, 0, DAY - 1), beyond(v, 0, 99999));
        return refusal != 0 ? refuse(refusal) : replace(town.suns, hour, v);
    }

    public int feed(int n, long bytes) {
        if (n < 1) {
            return refuse(BELOW);
        }
        if (n > 8 || n > TAPE_MOST - tape.size) {
            return refuse(ROOM);
        }
        for (int i = 0; i < n; i++) {
            tape.put((int) (bytes >>> (8 * i)) & 255);
        }
        return tape.size;
    }

    public int rule(int purpose, int day) {
        if (purpose != GIVE && purpose != TAKE) {
            return refuse(OTHER);
        }
        if (day < ground.hour / DAY) {
            return refuse(BELOW);
        }
        if (day > DAYS_MOST || rules.told.size() >= RULES_MOST) {
            return refuse(ROOM);
        }
        int fault = tape.compile();
        tape.size = 0;
        if (fault != NO_FAULT) {
            return -20 - fault;
        }
        rules.told.add(new Rule(purpose, day, tape.code.clone(), tape.used));
        return rules.told.size();
    }

    public int may(int bore, int purpose) {
        Bore asked = ground.find(bore);
        if (asked == null) {
            return refuse(NOBODY);
        }
        if (purpose != GIVE && purpose != TAKE) {
            return refuse(OTHER);
        }
        int hour = ground.hour;
        rules.tellHour(town, hour, town.needOf(hour));
        return (int) rules.worth(rules.inForce(purpose, hour / DAY), asked);
    }

    public long told(int what) {
        if (what >= 0 && what < ground.totals.length) {
            return ground.totals[what];
        }
        if (what == 9 || what == 10) {
            return ground.heatInAll(what == 10);
        }
        return refuseLong(OTHER);
    }

    public long given(int bore) {
        Bore asked = ground.find(bore);
        return asked == null ? refuseLong(NOBODY) : asked.given;
    }

    public long ahead(int n, int shut, int what) {
        if (shut < 0 || shut >= 1 << ground.bores.size()) {
            return refuseLong(NOBODY);
        }
        if (what < 0 || what > 2) {
            return refuseLong(OTHER);
        }
        int refusal = beyond(n, 1, MIND_MOST);
        if (refusal != 0) {
            return refuseLong(refusal);
        }
        if (what != 2 && ground.bores.isEmpty()) {
            return refuseLong(STATE);
        }
        mind.follow(ground);
        mind.shut(shut);
        passColdest(n);
        if (what == 2) {
            return mind.totals[BOUGHT] - ground.totals[BOUGHT];
        }
        return what == 0 ? coldest : coldestHour;
    }

    public int few(int n, int m) {
        if (n < 1 || m < 0) {
            return refuse(BELOW);
        }
        if (n > FEW_HOURS_MOST || m > 1000000000) {
            return refuse(ROOM);
        }
        int bores = ground.bores.size();
        for (int many = 0; many <= bores; many++) {
            for (int set = 0; set < 1 << bores; set++) {
                if (Integer.bitCount(set) == many && isEnough(set, n, m)) {
                    return set;
                }
            }
        }
        return -9;
    }

    public long takenFrom(int bore, int other, int n) {
        if (ground.find(bore) == null || ground.find(other) == null || bore == other) {
            return refuseLong(NOBODY);
        }
        int refusal = beyond(n, 1, MIND_MOST);
        if (refusal != 0) {
            return refuseLong(refusal);
        }
        long asTheyAre = givenInMind(bore, 0, n);
        return givenInMind(bore, 1 << other, n) - asTheyAre;
    }

    public int tank(int crates, int size) {
        if (crates < 0 || size < 1) {
            return refuse(BELOW);
        }
        if (crates > CRATES_MOST || size > 9999) {
            return refuse(ROOM);
        }
        int was = tank.crates;
        tank.crates = crates;
        tank.size = size;
        return was;
    }

    public long best(int i) {
        if (i < 0 || i > DAY) {
            return refuseLong(OTHER);
        }
        tank.plan(town, ground.hour);
        return i < tank.bought.length ? tank.bought[i] : tank.leastCost();
    }

    public int reading(int bore, int thousandths) {
        Bore asked = ground.find(bore);
        if (asked == null) {
            return refuse(NOBODY);
        }
        int number = readings.size();
        if (thousandths < THOUSANDTHS_LEAST) {
            return refuse(BELOW);
        }
        if (thousandths > THOUSANDTHS_MOST || number >= READINGS_MOST) {
            return refuse(ROOM);
        }
        readings.add(new Reading(bore, ground.hour, thousandths - asked.top.warm));
        return number;
    }

    public long wrong(int i) {
        return i < 0 || i >= readings.size() ? refuseLong(NOBODY) : readings.get(i).wrong;
    }

    public long leak(int bore) {
        Bore asked = ground.find(bore);
        if (asked == null) {
            return refuseLong(NOBODY);
        }
        Reading first = null;
        Reading last = null;
        for (int i = 0; i < readings.size(); i++) {
            Reading reading = readings.get(i);
            if (reading.bore == bore) {
                first = first == null ? reading : first;
                last = reading;
            }
        }
        if (first == null || last == null || first.hour == last.hour) {
            return refuseLong(STATE);
        }
        return cut((first.wrong - last.wrong) * asked.top.hold, last.hour - first.hour);
    }

    public int count(int what) {
        switch (what) {
            case 0: return ground.hour;
            case 1: return ground.bores.size();
            case 2: return ground.openOnes();
            case 3: return town.houses.size();
            case 4: return town.joinedOn(ground.hour / DAY);
            case 5: return table.size;
            case 6: return rules.told.size();
            case 7: return tape.size;
            case 8: return readings.size();
            default: return what > 10 && what - 10 < refusals.length ? refusals[what - 10] : -9;
        }
    }

    private Ring findRing(int bore, int ring) {
        Bore asked = ground.find(bore);
        if (asked == null || ring < 0 || ring >= asked.rings.size()) {
            return null;
        }
        return asked.rings.get(ring);
    }

    private void passColdest(int n) {
        coldest = ABOVE_ALL;
        coldestHour = mind.hour;
        for (int i = 0; i < n; i++) {
            int hour = mind.hour;
            mind.pass();
            long now = mind.coldestNow();
            if (now < coldest) {
                coldest = now;
                coldestHour = hour;
            }
        }
    }

    private boolean isEnough(int set, int n, long m) {
        mind.follow(ground);
        mind.openOnly(set);
        long most = ground.totals[BOUGHT] + m;
        for (int i = 0; i < n && mind.totals[BOUGHT] <= most; i++) {
            mind.pass();
        }
        return mind.totals[BOUGHT] <= most;
    }

    private long givenInMind(int bore, int shut, int n) {
        mind.follow(ground);
        mind.shut(shut);
        for (int i = 0; i < n; i++) {
            mind.pass();
        }
        Bore asked = mind.find(bore);
        return asked == null ? 0 : asked.given;
    }

    private int refuse(int number) {
        if (number < 0 && number > -refusals.length) {
            refusals[-number]++;
        }
        return number;
    }

    private long refuseLong(int number) {
        return LONG_REFUSAL - refuse(number);
    }

    private static int beyond(int v, int least, int most) {
        if (v < least) {
            return BELOW;
        }
        return v > most ? ROOM : 0;
    }

    private static int firstOf(int refusal, int next) {
        return refusal != 0 ? refusal : next;
    }

    private static int replace(int[] row, int i, int v) {
        if (i < 0 || i >= row.length) {
            return 0;
        }
        int was = row[i];
        row[i] = v;
        return was;
    }

    private static int inRound(int[] row, int i) {
        return row.length == 0 ? 0 : row[Math.floorMod(i, row.length)];
    }

    private static long cut(long v, long by) {
        return by == 0 ? 0 : v / by;
    }

    /** A ring of ground: its warmth and flow are those of the HOUR as it began. */
    private static final class Ring {
        final long hold;
        final long first;
        long heat;
        long warm;
        long flow;

        Ring(long hold, long degrees) {
            this.hold = hold;
            first = 1000 * degrees * hold;
            heat = first;
            warm = cut(first, hold);
        }

        void settle() {
            heat += flow;
            flow = 0;
            warm = cut(heat, hold);
        }

        void follow(Ring other) {
            heat = other.heat;
            warm = other.warm;
            flow = 0;
        }
    }

    private static final class Bore {
        final int number;
        final int x;
        final int y;
        final int degrees;
        final ArrayList<Ring> rings = new ArrayList<>();
        final Ring top;
        final Ring last;
        int lead;
        int water;
        boolean open = true;
        long given;

        Bore(int number, int place, int count, int hold, int step, int degrees) {
            this.number = number;
            x = place / 100;
            y = place % 100;
            this.degrees = degrees;
            top = new Ring(hold, degrees);
            rings.add(top);
            Ring outer = top;
            for (int k = 1; k < count; k++) {
                outer = new Ring(hold + k * step, degrees);
                rings.add(outer);
            }
            last = outer;
        }

        boolean isFrozen() {
            return top.warm <= 0;
        }

        /** Heat on its way from ring to ring; answers what goes beyond the RIM. */
        long leadOut() {
            long rim = 1000L * degrees;
            Ring ring = top;
            for (int k = 1; k < rings.size(); k++) {
                Ring next = rings.get(k);
                long moved = lead * (ring.warm - next.warm) / 100;
                ring.flow -= moved;
                next.flow += moved;
                ring = next;
            }
            long lost = lead * (ring.warm - rim) / 100;
            ring.flow -= lost;
            return lost;
        }

        void shareWith(Bore other, int share) {
            int far = Math.max(Math.abs(x - other.x), Math.abs(y - other.y));
            if (far > NEAR) {
                return;
            }
            long moved = cut(share * (last.warm - other.last.warm), 100L * (far + 1));
            last.flow -= moved;
            other.last.flow += moved;
        }

        /** Heat that the WATER takes; answers how much is CARRIED OFF. */
        long wash() {
            long carried = 0;
            for (int k = 0; k < rings.size(); k++) {
                Ring ring = rings.get(k);
                long gone = water * (ring.heat - ring.first) / 1000;
                ring.flow -= gone;
                carried += gone;
            }
            return carried;
        }

        void settle() {
            for (int k = 0; k < rings.size(); k++) {
                rings.get(k).settle();
            }
        }

        void follow(Bore other) {
            lead = other.lead;
            water = other.water;
            open = other.open;
            given = other.given;
            for (int k = 0; k < rings.size() && k < other.rings.size(); k++) {
                rings.get(k).follow(other.rings.get(k));
            }
        }
    }

    /** All that an HOUR changes: there is one that is so, and one that is only in mind. */
    private static final class Ground {
        final Town town;
        final Table table;
        final Rules rules;
        final ArrayList<Bore> bores = new ArrayList<>();
        final long[] totals = new long[TOTALS];
        int share;
        int hour;

        Ground(Town town, Table table, Rules rules) {
            this.town = town;
            this.table = table;
            this.rules = rules;
        }

        Bore find(int number) {
            return number < 0 || number >= bores.size() ? null : bores.get(number);
        }

        void pass() {
            long wanted = town.needOf(hour);
            rules.tellHour(town, hour, wanted);
            // The ground moves last, but by what was as the HOUR began: its flows are laid up first.
            layFlows();
            takeSun();
            meet(wanted);
            for (int i = 0; i < bores.size(); i++) {
                bores.get(i).settle();
            }
            hour++;
        }

        private void layFlows() {
            for (int i = 0; i < bores.size(); i++) {
                Bore bore = bores.get(i);
                totals[LOST] += bore.leadOut();
                totals[CARRIED] += bore.wash();
                for (int j = i + 1; j < bores.size(); j++) {
                    bore.shareWith(bores.get(j), share);
                }
            }
        }

        private void takeSun() {
            Rule rule = rules.inForce(TAKE, hour / DAY);
            long rest = inRound(town.suns, hour);
            for (int i = 0; i < bores.size() && rest > 0; i++) {
                Bore bore = bores.get(i);
                if (bore.open) {
                    long taken = Math.min(rest, rules.worth(rule, bore));
                    bore.top.heat += taken;
                    rest -= taken;
                    totals[TAKEN] += taken;
                }
            }
            totals[WASTED] += rest;
        }

        private void meet(long wanted) {
            Rule rule = rules.inForce(GIVE, hour / DAY);
            long rest = wanted;
            long power = 0;
            for (int i = 0; i < bores.size() && rest > 0; i++) {
                Bore bore = bores.get(i);
                if (bore.open && !bore.isFrozen()) {
                    long lift = table.liftAt(bore.top.warm);
                    // The greatest g of which g * lift / 100, cut, is not above the rest.
                    long wantedOfIt = cut(100 * rest + 99, lift);
                    long held = Math.max(0, bore.top.heat);
                    long g = Math.min(rules.worth(rule, bore), Math.min(held, wantedOfIt));
                    long lifted = g * lift / 100;
                    bore.top.heat -= g;
                    bore.given += g;
                    rest -= lifted;
                    power += lifted - g;
                    totals[GIVEN] += g;
                    totals[LIFTED] += lifted;
                }
            }
            totals[POWER] += power;
            totals[BOUGHT] += rest;
            totals[COST] += (power + rest) * inRound(town.prices, hour) / 100;
        }

        void follow(Ground other) {
            share = other.share;
            hour = other.hour;
            for (int i = 0; i < totals.length && i < other.totals.length; i++) {
                totals[i] = other.totals[i];
            }
            for (int i = 0; i < bores.size() && i < other.bores.size(); i++) {
                bores.get(i).follow(other.bores.get(i));
            }
        }

        void shut(int set) {
            for (int i = 0; i < bores.size(); i++) {
                if ((set >> i & 1) == 1) {
                    bores.get(i).open = false;
                }
            }
        }

        void openOnly(int set) {
            for (int i = 0; i < bores.size(); i++) {
                bores.get(i).open = (set >> i & 1) == 1;
            }
        }

        int openOnes() {
            int ones = 0;
            for (int i = 0; i < bores.size(); i++) {
                ones += bores.get(i).open ? 1 : 0;
            }
            return ones;
        }

        long coldestNow() {
            long least = ABOVE_ALL;
            for (int i = 0; i < bores.size(); i++) {
                least = Math.min(least, bores.get(i).top.warm);
            }
            return least;
        }

        long heatInAll(boolean atFirst) {
            long sum = 0;
            for (int i = 0; i < bores.size(); i++) {
                ArrayList<Ring> rings = bores.get(i).rings;
                for (int k = 0; k < rings.size(); k++) {
                    Ring ring = rings.get(k);
                    sum += atFirst ? ring.first : ring.heat;
                }
            }
            return sum;
        }
    }

    private static final class House {
        final int base;
        final int more;
        final int wake;
        boolean told;
        int day;

        House(int base, int more, int wake) {
            this.base = base;
            this.more = more;
            this.wake = wake;
        }

        boolean isJoinedOn(int today) {
            return told && day <= today;
        }
    }

    /** The HOUSES, and what is told of days and hours of the day. */
    private static final class Town {
        final ArrayList<House> houses = new ArrayList<>();
        final int[] colds = new int[COLD_DAYS];
        final int[] prices = new int[DAY];
        final int[] suns = new int[DAY];

        Town() {
            for (int i = 0; i < prices.length; i++) {
                prices[i] = 10;
            }
        }

        long needOf(int hour) {
            int today = hour / DAY;
            int colder = Math.max(0, MILD - inRound(colds, today));
            long sum = 0;
            for (int i = 0; i < houses.size(); i++) {
                House house = houses.get(i);
                if (house.isJoinedOn(today)) {
                    int wanted = house.base + house.more * colder;
                    boolean awake = (house.wake >> hour % DAY & 1) == 1;
                    sum += awake ? wanted : wanted / 2;
                }
            }
            return sum;
        }

        int joinedOn(int today) {
            int joined = 0;
            for (int i = 0; i < houses.size(); i++) {
                joined += houses.get(i).isJoinedOn(today) ? 1 : 0;
            }
            return joined;
        }
    }

    /** The MACHINE's points. */
    private static final class Table {
        final int[] warms = new int[POINTS_MOST];
        final int[] lifts = new int[POINTS_MOST];
        int size;

        boolean isAboveLast(int warm) {
            int last = size - 1;
            return last < 0 || last >= warms.length || warm > warms[last];
        }

        void addPoint(int warm, int lift) {
            if (size >= 0 && size < warms.length && size < lifts.length) {
                warms[size] = warm;
                lifts[size] = lift;
                size++;
            }
        }

        long liftAt(long warm) {
            long lift = PLAIN_LIFT;
            long from = 0;
            for (int i = 0; i < size && i < warms.length && i < lifts.length; i++) {
                long to = 1000L * warms[i];
                if (warm < to) {
                    return i == 0 ? lifts[i] : lift + cut((lifts[i] - lift) * (warm - from), to - from);
                }
                lift = lifts[i];
                from = to;
            }
            return lift;
        }
    }

    /** A TEXT in force for a PURPOSE, its signs in the order in which they are worked out. */
    private static final class Rule {
        final int purpose;
        final int day;
        final int[] code;
        final int used;

        Rule(int purpose, int day, int[] code, int used) {
            this.purpose = purpose;
            this.day = day;
            this.code = code;
            this.used = used;
        }
    }

    private static final class Rules {
        final ArrayList<Rule> told = new ArrayList<>();
        final long[] letters = new long[9];
        final long[] stack = new long[TAPE_MOST];

        Rule inForce(int purpose, int today) {
            Rule latest = null;
            for (int i = 0; i < told.size(); i++) {
                Rule rule = told.get(i);
                if (rule.purpose == purpose && rule.day <= today
                        && (latest == null || rule.day >= latest.day)) {
                    latest = rule;
                }
            }
            return latest;
        }

        /** The letters that are the same for all BORES, in the order of LETTERS. */
        void tellHour(Town town, int hour, long wanted) {
            letters[0] = hour % DAY;
            letters[1] = hour / DAY;
            letters[2] = inRound(town.prices, hour);
            letters[3] = inRound(town.colds, hour / DAY);
            letters[4] = wanted;
        }

        long worth(Rule rule, Bore bore) {
            if (rule == null) {
                return 0;
            }
            letters[5] = bore.top.warm / 1000;
            letters[6] = bore.last.warm / 1000;
            letters[7] = bore.number;
            letters[8] = bore.degrees;
            long v = workOut(rule.code, rule.used);
            return v < 0 ? 0 : v > WORTH_MOST ? WORTH_MOST : v;
        }

        private long workOut(int[] code, int used) {
            int high = 0;
            for (int i = 0; i < used && i < code.length; i++) {
                int sign = code[i];
                if (sign <= FIRST_OPERATOR) {
                    if (high < 2 || high > stack.length) {
                        return 0;
                    }
                    high--;
                    stack[high - 1] = step(FIRST_OPERATOR - sign, stack[high - 1], stack[high]);
                } else if (high < stack.length) {
                    stack[high] = valueOf(sign);
                    high++;
                }
            }
            return high > 0 && high <= stack.length ? stack[high - 1] : 0;
        }

        private long valueOf(int sign) {
            if (sign >= 0) {
                return sign;
            }
            int letter = FIRST_LETTER - sign;
            return letter >= 0 && letter < letters.length ? letters[letter] : 0;
        }

        private static long step(int operator, long a, long b) {
            long v;
            switch (operator) {
                case 0: v = a + b; break;
                case 1: v = a - b; break;
                case 2: v = a * b; break;
                case 3: v = b == 0 ? 0 : a / b; break;
                case 4: v = a < b ? 1 : 0; break;
                case 5: v = a == b ? 1 : 0; break;
                default: v = a > b ? 1 : 0;
            }
            return v < -HELD ? -HELD : v > HELD ? HELD : v;
        }
    }

    /** THE TAPE, and the reading of it as a TEXT. */
    private static final class Tape {
        final int[] bytes = new int[TAPE_MOST];
        final int[] code = new int[TAPE_MOST];
        int size;
        int used;
        private int at;
        private int fault;

        void put(int sign) {
            if (size >= 0 && size < bytes.length) {
                bytes[size] = sign;
                size++;
            }
        }

        /** Answers the place of the FAULT, or NO_FAULT. */
        int compile() {
            at = 0;
            used = 0;
            fault = NO_FAULT;
            readSum(0);
            if (at < size) {
                fail();
            }
            return fault;
        }

        private void readSum(int depth) {
            readTerm(depth);
            for (int i = 0; i < TAPE_MOST && isAt("+-"); i++) {
                int operator = takeOperator();
                readTerm(depth);
                emit(operator);
            }
        }

        private void readTerm(int depth) {
            readUnit(depth);
            for (int i = 0; i < TAPE_MOST && isAt("*/"); i++) {
                int operator = takeOperator();
                readUnit(depth);
                emit(operator);
            }
        }

        private void readUnit(int depth) {
            if (isAtDigit()) {
                readNumber();
            } else if (isAt(LETTERS)) {
                emit(FIRST_LETTER - LETTERS.indexOf((char) seen()));
                at++;
            } else if (isAt("(") && depth < BRACKETS_DEEP) {
                at++;
                readBracket(depth + 1);
            } else {
                fail();
            }
        }

        private void readBracket(int depth) {
            readSum(depth);
            if (isAt("<=>")) {
                int operator = takeOperator();
                readSum(depth);
                emit(operator);
            }
            if (isAt(")")) {
                at++;
            } else {
                fail();
            }
        }

        private void readNumber() {
            int v = 0;
            for (int i = 0; i < DIGITS_MOST && isAtDigit(); i++) {
                v = 10 * v + seen() - '0';
                at++;
            }
            emit(v);
        }

        private int takeOperator() {
            int operator = FIRST_OPERATOR - OPERATORS.indexOf((char) seen());
            at++;
            return operator;
        }

        private int seen() {
            boolean isThere = fault == NO_FAULT && at >= 0 && at < size && at < bytes.length;
            return isThere ? bytes[at] : END;
        }

        private boolean isAt(String signs) {
            int sign = seen();
            return sign != END && signs.indexOf((char) sign) >= 0;
        }

        private boolean isAtDigit() {
            int sign = seen();
            return sign >= '0' && sign <= '9';
        }

        private void emit(int sign) {
            if (used >= 0 && used < code.length) {
                code[used] = sign;
                used++;
            }
        }

        private void fail() {
            if (fault == NO_FAULT) {
                fault = at;
            }
        }
    }

    /** THE TANK and its best day. */
    private static final class Tank {
        int crates;
        int size = 100;
        final long[] bought = new long[DAY];
        private final long[] needs = new long[DAY];
        private final long[] prices = new long[DAY];
        /** The least cost from an HOUR on to the day's end, by how many CRATES it holds. */
        private final long[][] costs = new long[DAY + 1][CRATES_MOST + 1];

        void plan(Town town, int hour) {
            for (int h = 0; h < DAY; h++) {
                needs[h] = town.needOf(hour + h);
                prices[h] = inRound(town.prices, hour + h);
            }
            for (int h = DAY - 1; h >= 0; h--) {
                for (int held = 0; held <= crates && held <= CRATES_MOST; held++) {
                    costs[h][held] = leastFrom(h, held);
                }
            }
            int held = 0;
            for (int h = 0; h < DAY; h++) {
                int move = firstBest(h, held);
                bought[h] = needs[h] + (long) move * size;
                held += move;
            }
        }

        long leastCost() {
            return costs[0][0];
        }

        private long leastFrom(int h, int held) {
            long least = ABOVE_ALL;
            for (int move = -CRATES_MOVED; move <= CRATES_MOVED; move++) {
                least = Math.min(least, costOf(h, held, move));
            }
            return least;
        }

        /** Of the moves of least cost the one that buys least. */
        private int firstBest(int h, int held) {
            long least = leastFrom(h, held);
            for (int move = -CRATES_MOVED; move <= CRATES_MOVED; move++) {
                if (costOf(h, held, move) == least) {
                    return move;
                }
            }
            return 0;
        }

        private long costOf(int h, int held, int move) {
            int then = held + move;
            if (h < 0 || h >= DAY || then < 0 || then > crates || then > CRATES_MOST) {
                return ABOVE_ALL;
            }
            long buys = needs[h] + (long) move * size;
            return buys < 0 ? ABOVE_ALL : buys * prices[h] / 100 + costs[h + 1][then];
        }
    }

    private static final class Reading {
        final int bore;
        final int hour;
        final long wrong;

        Reading(int bore, int hour, long wrong) {
            this.bore = bore;
            this.hour = hour;
            this.wrong = wrong;
        }
    }
}
