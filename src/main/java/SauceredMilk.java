import java.util.Arrays;

/**
 * A court in which one man's look turns the milk of witnesses: the witnesses and TERMS for them,
 * the town and its ways round milk, and what can be reckoned about both.
 * The words in capitals are those of the document.
 */
public final class SauceredMilk {
    public static final int NONE = -6, UNKNOWN = -1, OUTSIDE = -2, STATE = -3, FULL = -4, NO = -5;
    public static final long LOST = -1000000000000000000L;

    private static final int WITNESSES = 8;
    private static final int PLACES = 16;
    private static final int MOST_CREAM = 99;
    private static final int FRESH_CREAM = 50;
    private static final int LAST_HOUR = 99;
    private static final int HIS_REACH = 3;
    private static final int BENDING_REACH = 1;

    private static final int SIGNS = 60;
    private static final int FIRST_SIGN = 33;
    private static final int LAST_SIGN = 126;
    private static final char FORTH = '>';
    private static final char BACK = '<';
    private static final char BEND = '?';
    private static final char FRESH = '=';
    private static final char RETHINK = '~';
    private static final char LET_GO = '!';
    private static final char HOUR = '.';

    // not a reason that is ever told: signs with a FAULT are no ACTS
    private static final int FAULTY = -1;
    private static final int CAN_BE = 0;
    private static final int NO_WITNESS = 1;
    private static final int NO_PLACE = 2;
    private static final int TOO_FAR = 3;
    private static final int ENOUGH = 4;
    private static final int TOO_LATE = 5;

    private static final int CELLS = 12;
    private static final int ALL_CELLS = 4095;
    private static final int BOWLS = 99;
    private static final int TOGETHER = 20;
    private static final int COUNTED_ROW = 40;
    private static final int WRITTEN_ROW = 25;
    private static final int LAST_ROW = 99999;
    private static final int ROWS_LEFT_OVER_BY = 1000007;

    private static final int SIGHTS = 8;
    private static final int GUESSES = 100;
    private static final int MOST_LOST = 45;
    private static final int CUPS = 99;
    private static final int LAST_SEED = 9999;
    private static final int YEAR_ACTS = 99;
    private static final int IMAGES = 2;

    private final World world;
    private final World[] images;
    private final Pad pad;
    private final Hearing hearing;
    private final Bowls bowls;
    private final Guesses guesses;

    public SauceredMilk() {
        world = new World();
        images = new World[IMAGES];
        pad = new Pad();
        hearing = new Hearing();
        bowls = new Bowls();
        guesses = new Guesses();
    }

    // ---- 1 witnesses, HE, the town, terms

    public int witness(int witness, int place, boolean lies, int cream) {
        if (!isWitness(witness)) return UNKNOWN;
        if (!isPlace(place) || !within(cream, 0, MOST_CREAM)) return OUTSIDE;
        world.court.seat(witness, place, lies, cream);
        return Integer.bitCount(world.court.present);
    }

    public int he(int place, int power, int spite) {
        if (!isPlace(place) || !within(power, 0, 9) || !within(spite, 0, 9)) return OUTSIDE;
        Court court = world.court;
        int before = 100 * court.his + 10 * court.power + court.spite;
        court.his = place;
        court.power = power;
        court.spite = spite;
        return before;
    }

    public int way(int a, int b, boolean is) {
        if (!isCell(a) || !isCell(b) || a == b) return UNKNOWN;
        world.town.lead(a, b, is);
        return world.town.countWays();
    }

    public int milk(int cells) {
        if (!within(cells, 0, ALL_CELLS)) return OUTSIDE;
        int before = world.town.milky;
        world.town.milky = cells;
        return before;
    }

    public int say(int sign) {
        if (!within(sign, FIRST_SIGN, LAST_SIGN)) return OUTSIDE;
        if (pad.count >= SIGNS) return FULL;
        pad.write((char) sign);
        return pad.count;
    }

    public int wipe() {
        int before = pad.count;
        pad.count = 0;
        return before;
    }

    public int fault() {
        return pad.firstFault();
    }

    // ---- 2 terms

    public int judge(int what) {
        if (!within(what, 0, 1)) return OUTSIDE;
        hearing.hear(world.court, pad);
        if (hearing.reason == FAULTY) return NO;
        if (hearing.reason == CAN_BE) return NONE;
        return what == 0 ? hearing.acts : hearing.reason;
    }

    public int done() {
        hearing.hear(world.court, pad);
        if (hearing.reason != CAN_BE) return NO;
        world.court.become(hearing.court);
        pad.count = 0;
        return hearing.acts;
    }

    public int behind(int witness, int what) {
        if (!world.court.has(witness)) return UNKNOWN;
        if (!within(what, 0, 1)) return OUTSIDE;
        hearing.hear(world.court, pad);
        if (hearing.reason != CAN_BE) return NO;
        if (!hearing.court.has(witness)) return NONE;
        return what == 0 ? hearing.court.creamOf(witness) : asNumber(hearing.court.isLiar(witness));
    }

    public int then(int what) {
        if (!within(what, 0, 6)) return OUTSIDE;
        hearing.hear(world.court, pad);
        if (hearing.reason != CAN_BE) return NO;
        Court court = hearing.court;
        int off = court.offOnes();
        switch (what) {
            case 0: return off;
            case 1: return Integer.bitCount(court.liars() & ~off);
            case 2: return Integer.bitCount(off & ~court.liars());
            case 3: return court.his;
            case 4: return court.hour;
            case 5: return hearing.firstOffAct;
            default: return hearing.firstOffWitness;
        }
    }

    public int lasts(int witness) {
        Court court = world.court;
        if (!court.has(witness)) return UNKNOWN;
        int cream = court.creamOf(witness);
        if (cream == 0) return 0;
        int loss = court.lossInAnHour(witness);
        return loss > 0 ? (cream + loss - 1) / loss : NONE;
    }

    // ---- 3 trials, ways round, rows of saucers

    public int trials(int n, int k, int what) {
        if (!within(n, 1, BOWLS) || !within(k, 1, TOGETHER) || !within(what, 0, 1)) return OUTSIDE;
        bowls.weigh(n, k);
        return what == 0 ? bowls.fewestFor(n) : bowls.leastFirst(n, k);
    }

    public int round(int from, int to, int what) {
        if (!isCell(from) || !isCell(to)) return UNKNOWN;
        if (!within(what, 0, 1)) return OUTSIDE;
        int safe = world.town.safeCells(world.town.milky);
        return what == 0 ? world.town.steps(from, to, safe) : world.town.firstCell(from, to, safe);
    }

    public int shun(int from, int to, int what) {
        if (!isCell(from) || !isCell(to)) return UNKNOWN;
        if (!within(what, 0, 1)) return OUTSIDE;
        int emptied = world.town.fewestToEmpty(from, to);
        if (emptied == NONE) return NONE;
        return what == 0 ? Integer.bitCount(emptied) : emptied;
    }

    public int apart(int n, int j) {
        if (!within(n, 0, COUNTED_ROW) || !within(j, 0, n)) return OUTSIDE;
        return countRows(n, j) % ROWS_LEFT_OVER_BY;
    }

    public int row(int n, int j, int i) {
        if (!within(n, 0, WRITTEN_ROW) || !within(j, 0, n) || !within(i, 0, LAST_ROW)) return OUTSIDE;
        return i < countRows(n, j) ? nthRow(n, j, i) : NONE;
    }

    /** Of n saucers, j are OFF and no two of these side by side: the OFF ones go into the gaps between the others. */
    private static int countRows(int n, int j) {
        return choose(n - j + 1, j);
    }

    /** Each product is a binomial coefficient times its next divisor, so no division leaves anything over. */
    private static int choose(int from, int many) {
        if (many < 0 || many > from) return 0;
        long ways = 1;
        for (int i = 1; i <= many; i++) ways = ways * (from - many + i) / i;
        return (int) ways;
    }

    /** Rows in which a saucer is not OFF are less than all in which it is, the saucers ahead of it being alike. */
    private static int nthRow(int n, int j, int i) {
        int bits = 0;
        int stillOff = j;
        int stillBefore = i;
        for (int saucer = n - 1; saucer >= 0; saucer--) {
            int withoutThis = countRows(saucer, stillOff);
            if (stillBefore >= withoutThis) {
                stillBefore -= withoutThis;
                stillOff--;
                bits |= 1 << saucer;
            }
        }
        return bits;
    }

    // ---- 4 his power, jugs, odds

    public int seen(int d, boolean lies, int v) {
        if (!within(d, 0, HIS_REACH) || !within(v, 0, MOST_CREAM)) return OUTSIDE;
        if (world.sights.count >= SIGHTS) return FULL;
        world.sights.keep(10 * d + asNumber(lies), v);
        return world.sights.count;
    }

    public int forget() {
        int before = world.sights.count;
        world.sights.count = 0;
        return before;
    }

    public int so(int i) {
        guesses.gather(world.sights);
        return i == -1 ? guesses.count : guesses.guessAt(i);
    }

    public int ask(int what) {
        if (!within(what, 0, 1)) return OUTSIDE;
        guesses.gather(world.sights);
        if (guesses.count == 0) return NONE;
        int saucer = guesses.bestSaucer();
        return what == 0 ? saucer : guesses.leftAtMost(saucer);
    }

    public int jugs(int a, int b, int what) {
        if (!within(a, 0, CUPS) || !within(b, 0, CUPS) || !within(what, 0, 1)) return OUTSIDE;
        int times = leastWinningTimes(Math.max(a, b), Math.min(a, b));
        return what == 0 ? asNumber(times != NONE) : times;
    }

    public long odds(int t, int u, int n, int k, int part) {
        if (!within(t, 1, 9) || !within(u, 1, 9) || !within(n, 0, 15)) return LOST + OUTSIDE;
        if (!within(k, 0, n) || !within(part, 0, 1)) return LOST + OUTSIDE;
        long lying = t * power(u, k) * power(10 - u, n - k);
        long honest = (10 - t) * power(10 - u, k) * power(u, n - k);
        long divisor = commonDivisor(lying + honest, lying);
        return (part == 0 ? lying : lying + honest) / divisor;
    }

    public int year(int seed, int m, int what) {
        if (!within(seed, 0, LAST_SEED) || !within(m, 1, YEAR_ACTS) || !within(what, 0, 2)) return OUTSIDE;
        hearing.draw(world.court, seed, m);
        Court court = hearing.court;
        if (what == 0) return Integer.bitCount(court.offOnes());
        return what == 1 ? court.creamInAll() : court.his;
    }

    public int image(int n) {
        if (!within(n, 0, IMAGES - 1)) return OUTSIDE;
        World kept = images[n];
        if (kept == null) {
            kept = new World();
            images[n] = kept;
        }
        kept.become(world);
        return 1;
    }

    public int restore(int n) {
        if (!within(n, 0, IMAGES - 1)) return OUTSIDE;
        World kept = images[n];
        if (kept == null) return STATE;
        world.become(kept);
        return 1;
    }

    public int told(int what) {
        if (within(what, 10, 10 + CELLS - 1)) return world.town.waysFrom(what - 10);
        if (what >= 100) return toldOfWitness((what - 100) / 10, what % 10);
        switch (what) {
            case 0: return pad.count;
            case 1: return world.court.present;
            case 2: return world.court.offOnes();
            case 3: return world.court.his;
            case 4: return world.court.power;
            case 5: return world.court.spite;
            case 6: return world.court.hour;
            case 7: return world.town.milky;
            case 8: return world.sights.count;
            default: return OUTSIDE;
        }
    }

    private int toldOfWitness(int witness, int what) {
        Court court = world.court;
        if (!court.has(witness)) return OUTSIDE;
        switch (what) {
            case 0: return court.placeOf(witness);
            case 1: return asNumber(court.isLiar(witness));
            case 2: return court.creamOf(witness);
            default: return OUTSIDE;
        }
    }

    private static int leastWinningTimes(int fuller, int other) {
        if (other <= 0) return NONE;
        for (int times = 1; times <= fuller / other; times++) {
            int rest = fuller - times * other;
            if (!nextWins(Math.max(rest, other), Math.min(rest, other))) return times;
        }
        return NONE;
    }

    /**
     * Whether the one whose turn it is wins. Who can pour twice or more wins: he takes what is left over behind
     * all pours for himself, or, pouring once less, has the other one take it. Else there is but one move.
     */
    private static boolean nextWins(int fuller, int other) {
        int more = fuller;
        int less = other;
        boolean mine = true;
        for (int turn = 0; turn <= CUPS && less > 0; turn++) {
            if (more / less >= 2) return mine;
            int rest = more - less;
            more = less;
            less = rest;
            mine = !mine;
        }
        return !mine;
    }

    private static long power(int base, int times) {
        long product = 1;
        for (int i = 0; i < times; i++) product *= base;
        return product;
    }

    private static long commonDivisor(long a, long b) {
        long more = a;
        long less = b;
        for (int step = 0; step < 1000 && less > 0; step++) {
            long rest = more % less;
            more = less;
            less = rest;
        }
        return more > 0 ? more : 1;
    }

    // ---- what all parts share

    private static boolean within(int number, int least, int most) {
        return number >= least && number <= most;
    }

    private static boolean isWitness(int number) {
        return number >= 0 && number < WITNESSES;
    }

    private static boolean isPlace(int number) {
        return number >= 0 && number < PLACES;
    }

    private static boolean isCell(int number) {
        return number >= 0 && number < CELLS;
    }

    private static int asNumber(boolean is) {
        return is ? 1 : 0;
    }

    /** What an hour takes from a saucer so many PLACES off. */
    private static int lossAt(int places, boolean lies, int power, int spite) {
        if (places > HIS_REACH) return 0;
        return power * (HIS_REACH + 1 - places) + (lies ? spite : 0);
    }

    /** All that an IMAGE keeps. */
    private static final class World {
        private final Court court;
        private final Town town;
        private final Sights sights;

        World() {
            court = new Court();
            town = new Town();
            sights = new Sights();
        }

        void become(World other) {
            court.become(other.court);
            town.become(other.town);
            sights.become(other.sights);
        }
    }

    /** The WITNESSES, HE and the hour: all that an ACT can change. */
    private static final class Court {
        private final int[] places;
        private final int[] creams;
        private int present;
        private int lying;
        private int his;
        private int power;
        private int spite;
        private int hour;

        Court() {
            places = new int[WITNESSES];
            creams = new int[WITNESSES];
            power = 3;
            spite = 5;
        }

        void become(Court other) {
            System.arraycopy(other.places, 0, places, 0, WITNESSES);
            System.arraycopy(other.creams, 0, creams, 0, WITNESSES);
            present = other.present;
            lying = other.lying;
            his = other.his;
            power = other.power;
            spite = other.spite;
            hour = other.hour;
        }

        void seat(int witness, int place, boolean lies, int cream) {
            if (!isWitness(witness)) return;
            int bit = 1 << witness;
            places[witness] = place;
            creams[witness] = cream;
            present |= bit;
            lying = lies ? lying | bit : lying & ~bit;
        }

        boolean has(int witness) {
            return isWitness(witness) && (present >> witness & 1) == 1;
        }

        boolean isLiar(int witness) {
            return isWitness(witness) && (lying >> witness & 1) == 1;
        }

        int liars() {
            return present & lying;
        }

        int placeOf(int witness) {
            return isWitness(witness) ? places[witness] : 0;
        }

        int creamOf(int witness) {
            return isWitness(witness) ? creams[witness] : 0;
        }

        int offOnes() {
            int bits = 0;
            for (int witness = 0; witness < WITNESSES; witness++) {
                if (has(witness) && creams[witness] == 0) bits |= 1 << witness;
            }
            return bits;
        }

        int creamInAll() {
            int sum = 0;
            for (int witness = 0; witness < WITNESSES; witness++) {
                if (has(witness)) sum += creams[witness];
            }
            return sum;
        }

        int lossInAnHour(int witness) {
            return lossAt(placesOff(witness), isLiar(witness), power, spite);
        }

        /** The least reason for which the ACT can not be. */
        int whyNot(char kind, int number) {
            switch (kind) {
                case FORTH: return isPlace(his + number) ? CAN_BE : NO_PLACE;
                case BACK: return isPlace(his - number) ? CAN_BE : NO_PLACE;
                case HOUR: return hour < LAST_HOUR ? CAN_BE : TOO_LATE;
                default: return has(number) ? whyNotTo(kind, number) : NO_WITNESS;
            }
        }

        private int whyNotTo(char kind, int witness) {
            int cream = creamOf(witness);
            if (kind == BEND && placesOff(witness) > BENDING_REACH) return TOO_FAR;
            if (kind == BEND && cream == 0) return ENOUGH;
            if (kind == FRESH && cream >= FRESH_CREAM) return ENOUGH;
            return CAN_BE;
        }

        void act(char kind, int number) {
            switch (kind) {
                case FORTH: his += number; break;
                case BACK: his -= number; break;
                case HOUR: passHour(); break;
                case BEND: spoil(number, 2 * power + (isLiar(number) ? 3 * spite : 0)); break;
                case FRESH: refill(number); break;
                case RETHINK: lying ^= 1 << number; break;
                case LET_GO: present &= ~(1 << number); break;
                default: break;
            }
        }

        private void passHour() {
            for (int witness = 0; witness < WITNESSES; witness++) spoil(witness, lossInAnHour(witness));
            hour++;
        }

        private void spoil(int witness, int loss) {
            if (isWitness(witness)) creams[witness] = Math.max(0, creams[witness] - loss);
        }

        private void refill(int witness) {
            if (isWitness(witness)) creams[witness] = FRESH_CREAM;
        }

        private int placesOff(int witness) {
            return isWitness(witness) ? Math.abs(places[witness] - his) : PLACES;
        }
    }

    /** TERMS, as they are written. */
    private static final class Pad {
        private final char[] signs;
        private int count;

        Pad() {
            signs = new char[SIGNS];
        }

        void write(char sign) {
            if (!within(count, 0, SIGNS - 1)) return;
            signs[count] = sign;
            count++;
        }

        int firstFault() {
            for (int at = 0; at < count; at += isHour(at) ? 1 : 2) {
                if (isHour(at)) continue;
                if (!isMove(at) && !isLetter(at)) return at;
                if (at + 1 == count) return count;
                if (!canFollow(at)) return at + 1;
            }
            return NONE;
        }

        private boolean canFollow(int at) {
            char second = signAt(at + 1);
            if (isMove(at)) return second >= '1' && second <= '9';
            return second == BEND || second == FRESH || second == RETHINK || second == LET_GO;
        }

        /** Which kind of ACT begins there, where there is no FAULT. */
        char kindAt(int at) {
            return isLetter(at) ? signAt(at + 1) : signAt(at);
        }

        /** Of the ACT that begins there: the WITNESS, or how many PLACES. */
        int numberAt(int at) {
            return isLetter(at) ? signAt(at) - 'A' : signAt(at + 1) - '0';
        }

        boolean isHour(int at) {
            return signAt(at) == HOUR;
        }

        private boolean isMove(int at) {
            return signAt(at) == FORTH || signAt(at) == BACK;
        }

        private boolean isLetter(int at) {
            return isWitness(signAt(at) - 'A');
        }

        private char signAt(int at) {
            return within(at, 0, SIGNS - 1) ? signs[at] : 0;
        }
    }

    /** ACTS on a court of its own: what is so behind them is known, and nothing is DONE. */
    private static final class Hearing {
        private final Court court;
        private int acts;
        private int reason;
        private int firstOffAct;
        private int firstOffWitness;

        Hearing() {
            court = new Court();
        }

        /** Ends behind the TERMS, or ahead of the first ACT that can not be; with a FAULT it is not begun. */
        void hear(Court now, Pad pad) {
            begin(now);
            if (pad.firstFault() != NONE) reason = FAULTY;
            for (int at = 0; reason == CAN_BE && at < pad.count; at += pad.isHour(at) ? 1 : 2) {
                take(pad.kindAt(at), pad.numberAt(at));
            }
        }

        /** A YEAR: what can not be is left out. */
        void draw(Court now, int seed, int many) {
            begin(now);
            int x = seed;
            for (int i = 0; i < many; i++) {
                x = (75 * x + 74) % 65537;
                char kind = drawnKind(x % 8);
                take(kind, drawnNumber(kind, x / 8));
            }
        }

        private void begin(Court now) {
            court.become(now);
            acts = 0;
            reason = CAN_BE;
            firstOffAct = NONE;
            firstOffWitness = NONE;
        }

        private void take(char kind, int number) {
            reason = court.whyNot(kind, number);
            if (reason != CAN_BE) return;
            int offBefore = court.offOnes();
            court.act(kind, number);
            noteOff(court.offOnes() & ~offBefore);
            acts++;
        }

        private void noteOff(int newlyOff) {
            if (newlyOff == 0 || firstOffAct != NONE) return;
            firstOffAct = acts;
            firstOffWitness = Integer.numberOfTrailingZeros(newlyOff);
        }

        private static char drawnKind(int drawn) {
            switch (drawn) {
                case 0: return FORTH;
                case 1: return BACK;
                case 2: return BEND;
                case 3: return FRESH;
                case 4: return RETHINK;
                default: return HOUR;
            }
        }

        private static int drawnNumber(char kind, int y) {
            return kind == FORTH || kind == BACK ? y % 9 + 1 : y % WITNESSES;
        }
    }

    /** CELLS as bits, the WAYS between them and the MILK in them. */
    private static final class Town {
        private final int[] ways;
        private int milky;

        Town() {
            ways = new int[CELLS];
        }

        void become(Town other) {
            System.arraycopy(other.ways, 0, ways, 0, CELLS);
            milky = other.milky;
        }

        void lead(int a, int b, boolean is) {
            if (!isCell(a) || !isCell(b)) return;
            ways[a] = is ? ways[a] | 1 << b : ways[a] & ~(1 << b);
            ways[b] = is ? ways[b] | 1 << a : ways[b] & ~(1 << a);
        }

        int countWays() {
            int ends = 0;
            for (int cell = 0; cell < CELLS; cell++) ends += Integer.bitCount(ways[cell]);
            return ends / 2;
        }

        int waysFrom(int cell) {
            return isCell(cell) ? ways[cell] : 0;
        }

        int safeCells(int withMilk) {
            return ALL_CELLS & ~(withMilk | besideAny(withMilk));
        }

        private int besideAny(int cells) {
            int beside = 0;
            for (int cell = 0; cell < CELLS; cell++) {
                if ((cells >> cell & 1) == 1) beside |= ways[cell];
            }
            return beside;
        }

        int steps(int from, int to, int safe) {
            int reached = 1 << from & safe;
            for (int steps = 0; steps < CELLS; steps++) {
                if ((reached >> to & 1) == 1) return steps;
                int farther = reached | besideAny(reached) & safe;
                if (farther == reached) return NONE;
                reached = farther;
            }
            return NONE;
        }

        int firstCell(int from, int to, int safe) {
            int all = steps(from, to, safe);
            if (all <= 0) return NONE;
            for (int cell = 0; cell < CELLS; cell++) {
                boolean beside = (waysFrom(from) >> cell & 1) == 1;
                if (beside && steps(cell, to, safe) == all - 1) return cell;
            }
            return NONE;
        }

        /** Goes through the sets of CELLS with MILK by their bits rising, so the least of as few comes first. */
        int fewestToEmpty(int from, int to) {
            if (steps(from, to, ALL_CELLS) == NONE) return NONE;
            int best = milky;
            for (int emptied = 0; emptied < milky; emptied++) {
                boolean onlyMilky = (emptied & ~milky) == 0;
                boolean fewer = Integer.bitCount(emptied) < Integer.bitCount(best);
                if (onlyMilky && fewer && steps(from, to, safeCells(milky & ~emptied)) != NONE) best = emptied;
            }
            return best;
        }
    }

    /** In how few TRIALS each number of bowls can be told. */
    private static final class Bowls {
        private final int[] fewest;

        Bowls() {
            fewest = new int[BOWLS + 1];
        }

        /** One bowl needs no trial: it is known that it turns. */
        void weigh(int most, int together) {
            fewest[1] = 0;
            for (int n = 2; n <= most && n <= BOWLS; n++) {
                int least = BOWLS;
                for (int first = 1; first <= together && first < n; first++) {
                    least = Math.min(least, withFirst(n, first));
                }
                fewest[n] = least;
            }
        }

        int fewestFor(int n) {
            return within(n, 1, BOWLS) ? fewest[n] : 0;
        }

        int leastFirst(int n, int together) {
            for (int first = 1; first <= together && first < n; first++) {
                if (withFirst(n, first) == fewestFor(n)) return first;
            }
            return NONE;
        }

        private int withFirst(int n, int first) {
            return 1 + Math.max(fewestFor(first), fewestFor(n - first));
        }
    }

    /** SIGHTS, each saucer told by 10 times d, and 1 if its WITNESS LIES. */
    private static final class Sights {
        private final int[] saucers;
        private final int[] losses;
        private int count;

        Sights() {
            saucers = new int[SIGHTS];
            losses = new int[SIGHTS];
        }

        void become(Sights other) {
            System.arraycopy(other.saucers, 0, saucers, 0, SIGHTS);
            System.arraycopy(other.losses, 0, losses, 0, SIGHTS);
            count = other.count;
        }

        void keep(int saucer, int lost) {
            if (!within(count, 0, SIGHTS - 1)) return;
            saucers[count] = saucer;
            losses[count] = lost;
            count++;
        }

        boolean allowGuess(int guess) {
            for (int i = 0; i < count && i < SIGHTS; i++) {
                if (lossIf(guess, saucers[i]) != losses[i]) return false;
            }
            return true;
        }

        static int lossIf(int guess, int saucer) {
            return lossAt(saucer / 10, saucer % 10 == 1, guess / 10, guess % 10);
        }
    }

    /** Each guess is 10 times p, and e; here are those by which all SIGHTS are so. */
    private static final class Guesses {
        private final int[] fitting;
        private final int[] tally;
        private int count;

        Guesses() {
            fitting = new int[GUESSES];
            tally = new int[MOST_LOST + 1];
        }

        void gather(Sights sights) {
            count = 0;
            for (int guess = 0; guess < GUESSES; guess++) {
                if (count < GUESSES && sights.allowGuess(guess)) {
                    fitting[count] = guess;
                    count++;
                }
            }
        }

        int guessAt(int i) {
            return i >= 0 && i < count && i < GUESSES ? fitting[i] : NONE;
        }

        int bestSaucer() {
            int best = 0;
            for (int d = 0; d <= HIS_REACH; d++) {
                for (int saucer = 10 * d; saucer <= 10 * d + 1; saucer++) {
                    if (leftAtMost(saucer) < leftAtMost(best)) best = saucer;
                }
            }
            return best;
        }

        /** How many guesses are left at the most, once it is seen what that saucer loses. */
        int leftAtMost(int saucer) {
            Arrays.fill(tally, 0);
            int most = 0;
            for (int i = 0; i < count && i < GUESSES; i++) {
                int loss = Sights.lossIf(fitting[i], saucer);
                if (within(loss, 0, MOST_LOST)) {
                    tally[loss]++;
                    most = Math.max(most, tally[loss]);
                }
            }
            return most;
        }
    }
}
