import java.util.Arrays;

/** Laws that lapse unless they are broken often enough in a year, and the people who break them. */
public final class QuotaLaws {
    public static final int BAD = -1, STATE = -2, FULL = -3, NONE = -4;

    private static final int MOST_LAWS = 5;
    private static final int MOST_PEOPLE = 3;
    private static final int MOST_QUOTA = 9;
    private static final int MOST_CAP = 3;
    private static final int MOST_HARM = 9;
    private static final int MOST_FINE = 9;
    private static final int MOST_TIME = 5;
    private static final int MOST_CLUMSY = 3;
    private static final int MOST_NERVE = 10;
    private static final int MOST_PURSE = 99;
    private static final int MOST_DONE = 9999;
    private static final int LAST_YEAR = 999;
    private static final int MOST_SEEN = 8;
    private static final int MOST_TIMES_SEEN = 20;
    private static final int MOST_MORE = 9;
    private static final int MOST_TRIES = 60;
    private static final int FIRST_ENTRY = 10;
    private static final int TAPE_SIZE = 160;
    private static final int LAST_BYTE = 127;
    private static final int IMAGES = 2;
    private static final int SHEETS = 4;
    private static final int LANES = 3;
    private static final int MOST_CELLS = 40;
    private static final int MOST_READ = 20;
    private static final int FAULT_BASE = -10;
    private static final int REFUSED_BASE = -20;
    private static final int FAULT_NULL = 1, FAULT_INDEX = 2, FAULT_CAST = 3, FAULT_SIZE = 4;

    private final Reader reader = new Reader();
    private final Realm now = new Realm();
    // One spare realm serves every call that tries something out, so that no call makes objects.
    private final Realm trial = new Realm();
    private final Realm[] images = new Realm[IMAGES];
    private final boolean[] kept = new boolean[IMAGES];
    private final Sheet[] sheets = new Sheet[SHEETS];
    private final Planner planner = new Planner();
    private final Tables tables = new Tables();
    private final Odds odds = new Odds();
    private int tornFault;

    public QuotaLaws() {
        for (int k = 0; k < IMAGES; k++) {
            images[k] = new Realm();
        }
        for (int k = 0; k < SHEETS; k++) {
            sheets[k] = new Sheet();
        }
    }

    // ---- the text

    public int feed(int c) {
        if (!isWithin(c, 0, LAST_BYTE)) {
            return BAD;
        }
        return reader.append(c) ? reader.length : FULL;
    }

    public int end(int n) {
        if (!isWithin(n, 0, reader.length)) {
            return BAD;
        }
        int had = reader.length;
        reader.length = n;
        return had;
    }

    public int text() {
        boolean taken = reader.readInto(trial);
        reader.length = 0;
        if (!taken) {
            return FAULT_BASE - reader.faultPlace;
        }
        now.copyFrom(trial);
        for (int k = 0; k < IMAGES; k++) {
            kept[k] = false;
        }
        return reader.lines;
    }

    public int fault() {
        return reader.fault;
    }

    public int rule(int what) {
        switch (what) {
            case 0: return now.laws;
            case 1: return now.people;
            case 2: return now.year;
            case 3: return now.done;
            case 4: return now.stands;
            case 5: return now.watched;
            default: return BAD;
        }
    }

    public int law(int l, int what) {
        if (!now.hasLaw(l)) {
            return BAD;
        }
        switch (what) {
            case 0: return now.quota[l];
            case 1: return now.cap[l];
            case 2: return now.harm[l];
            case 3: return now.fine[l];
            case 4: return now.carries[l];
            case 5: return now.needOf(l);
            case 6: return now.chainOf(l);
            default: return BAD;
        }
    }

    public int one(int p, int what) {
        if (!now.hasOne(p)) {
            return BAD;
        }
        switch (what) {
            case 0: return now.time[p];
            case 1: return now.clumsy[p];
            case 2: return now.nerve[p];
            case 3: return now.purse[p];
            case 4: return now.refused[p];
            case 5: return now.wanted[p];
            case 6: return now.brokenByOne(p);
            case 7: return now.breakable(p);
            default: return BAD;
        }
    }

    public int broken(int p, int l) {
        return now.hasBoth(p, l) ? now.brokenBy(p, l) : BAD;
    }

    // ---- what is changed

    public int quota(int l, int v) {
        if (!now.hasLaw(l) || !isWithin(v, 0, MOST_QUOTA)) {
            return BAD;
        }
        int was = now.quota[l];
        now.quota[l] = v;
        return was;
    }

    public int carry(int l, int m) {
        if (!now.hasLaw(l) || m == l || m != NONE && !now.hasLaw(m)) {
            return BAD;
        }
        int was = now.carries[l];
        now.carries[l] = m;
        return was;
    }

    public int watch(int l, boolean is) {
        if (!now.hasLaw(l)) {
            return BAD;
        }
        int was = bitOf(now.watched, l);
        now.watched = withBit(now.watched, l, is);
        return was;
    }

    public int time(int p, int v) {
        if (!now.hasOne(p) || !isWithin(v, 0, MOST_TIME)) {
            return BAD;
        }
        int was = now.time[p];
        now.time[p] = v;
        return was;
    }

    public int refuse(int p, int l, boolean is) {
        if (!now.hasBoth(p, l)) {
            return BAD;
        }
        int was = bitOf(now.refused[p], l);
        now.refused[p] = withBit(now.refused[p], l, is);
        return was;
    }

    public int want(int p, int l, boolean is) {
        if (!now.hasBoth(p, l)) {
            return BAD;
        }
        int was = bitOf(now.wanted[p], l);
        now.wanted[p] = withBit(now.wanted[p], l, is);
        return was;
    }

    public int fund(int p, int v) {
        if (!now.hasOne(p) || !isWithin(v, 0, MOST_PURSE)) {
            return BAD;
        }
        int was = now.purse[p];
        now.purse[p] = v;
        return was;
    }

    public int revive(int l) {
        if (!now.hasLaw(l)) {
            return BAD;
        }
        if (hasBit(now.stands, l)) {
            return STATE;
        }
        now.stands = withBit(now.stands, l, true);
        return Integer.bitCount(now.stands);
    }

    // ---- breakings, years

    public int breaks(int p, int l) {
        return now.breakOnce(p, l);
    }

    public int year() {
        if (now.year >= LAST_YEAR) {
            return FULL;
        }
        return now.endYear();
    }

    public int falls() {
        return now.lapsing();
    }

    public int most(int what) {
        if (!isWithin(what, 0, 1)) {
            return BAD;
        }
        int best = NONE;
        int bestTaken = 0;
        for (int l = 0; l < now.laws; l++) {
            int taken = Integer.bitCount(now.chainOf(l) & now.stands);
            if (hasBit(now.stands, l) && taken > bestTaken) {
                best = l;
                bestTaken = taken;
            }
        }
        return what == 0 || best == NONE ? best : bestTaken;
    }

    // ---- rotas

    public int rota(int what) {
        int cell = what - FIRST_ENTRY;
        boolean isCell = what >= FIRST_ENTRY && now.hasBoth(cell % MOST_PEOPLE, cell / MOST_PEOPLE);
        if (what != 0 && !isCell) {
            return BAD;
        }
        planner.load(now);
        int harm = planner.leastHarm();
        if (harm == NONE || what == 0) {
            return harm;
        }
        return planner.timesInFirst(cell % MOST_PEOPLE, cell / MOST_PEOPLE);
    }

    public int more(int p) {
        if (!now.hasOne(p)) {
            return BAD;
        }
        planner.load(now);
        for (int extra = 0; extra <= MOST_MORE; extra++) {
            planner.grant(p, now.time[p] + extra - now.brokenByOne(p));
            if (planner.canMeet(now.stands)) {
                return extra;
            }
        }
        return NONE;
    }

    public int together(int what) {
        if (!isWithin(what, 0, 1)) {
            return BAD;
        }
        planner.load(now);
        int best = 0;
        for (int set = 0; set <= now.stands; set++) {
            boolean larger = Integer.bitCount(set) > Integer.bitCount(best);
            if (larger && isPart(set, now.stands) && planner.canMeet(set)) {
                best = set;
            }
        }
        return what == 0 ? Integer.bitCount(best) : best;
    }

    public int kill(int l, int what) {
        if (!now.hasLaw(l) || !isWithin(what, 0, 1)) {
            return BAD;
        }
        if (!hasBit(now.stands, l)) {
            return STATE;
        }
        int best = NONE;
        for (int set = 0; set < 1 << now.people; set++) {
            boolean fewer = best == NONE || Integer.bitCount(set) < Integer.bitCount(best);
            if (fewer && now.ableWithout(set, l) < now.needOf(l)) {
                best = set;
            }
        }
        return what == 0 && best != NONE ? Integer.bitCount(best) : best;
    }

    public int selfish(int what) {
        if (!isWithin(what, 0, 2)) {
            return BAD;
        }
        trial.copyFrom(now);
        int breakings = trial.eachForHimself();
        switch (what) {
            case 0: return trial.met();
            case 1: return breakings;
            default: return trial.done - now.done;
        }
    }

    // ---- odds

    public long luck(int l, int what) {
        if (!now.hasLaw(l) || !isWithin(what, 0, 1)) {
            return BAD;
        }
        odds.weigh(now, l);
        return what == 0 ? odds.over : odds.under;
    }

    // ---- books

    public int see(int what, int a, int n) {
        boolean there = what == 0 && now.hasOne(a) || what == 1 && now.hasLaw(a);
        if (!there || !isWithin(n, 0, MOST_TIMES_SEEN)) {
            return BAD;
        }
        return now.seen.append(what, a, n) ? now.seen.size : FULL;
    }

    public int forget(int n) {
        if (!isWithin(n, 0, now.seen.size)) {
            return BAD;
        }
        int had = now.seen.size;
        now.seen.size = n;
        return had;
    }

    public long books() {
        tables.load(now);
        return tables.fitting();
    }

    public int entry(int p, int l, int what) {
        if (!now.hasBoth(p, l) || !isWithin(what, 0, 1)) {
            return BAD;
        }
        tables.load(now);
        return tables.firstThatFits(p, l, what == 1);
    }

    // ---- by a seed

    public int wild(int seed, int n, int what) {
        if (!isWithin(n, 1, MOST_TRIES) || !isWithin(what, 0, 1)) {
            return BAD;
        }
        if (now.people <= 0 || now.laws <= 0) {
            return STATE;
        }
        trial.copyFrom(now);
        int breakings = trial.breakBySeed(seed, n);
        return what == 0 ? breakings : trial.lapsing();
    }

    // ---- images, sheets

    public int keep(int k) {
        if (!isWithin(k, 0, IMAGES - 1)) {
            return BAD;
        }
        int was = kept[k] ? 1 : 0;
        images[k].copyFrom(now);
        kept[k] = true;
        return was;
    }

    public int back(int k) {
        if (!isWithin(k, 0, IMAGES - 1)) {
            return BAD;
        }
        if (!kept[k]) {
            return STATE;
        }
        now.copyFrom(images[k]);
        return now.year;
    }

    public int sheet(int k, int lane, int n) {
        if (!isWithin(k, 0, SHEETS - 1) || !isWithin(lane, 0, LANES - 1) || n > MOST_CELLS) {
            return BAD;
        }
        if (n < 0) {
            return FAULT_BASE - FAULT_SIZE;
        }
        sheets[k].renew(lane, n);
        return 1;
    }

    public int lay(int k, int i, int v) {
        if (!isWithin(k, 0, SHEETS - 1)) {
            return BAD;
        }
        int found = sheets[k].faultAt(i);
        if (found != 0) {
            return FAULT_BASE - found;
        }
        sheets[k].put(i, v);
        return 1;
    }

    public int read(int k, int lane, int f, int n) {
        if (!isWithin(k, 0, SHEETS - 1) || !isWithin(lane, 0, LANES - 1) || !isWithin(n, 0, MOST_READ)) {
            return BAD;
        }
        Sheet from = sheets[k];
        trial.copyFrom(now);
        int came = 0;
        int found = from.faultAs(lane);
        for (int i = 0; i < n && found == 0; i++) {
            long at = (long) f + 2 * i;
            found = from.faultOfPair(at);
            if (found == 0) {
                if (trial.breakOnce(from.cellAt(at), from.cellAt(at + 1)) < 0) {
                    return REFUSED_BASE - i;
                }
                came++;
            }
        }
        now.copyFrom(trial);
        tornFault = found;
        return came;
    }

    public int torn() {
        return tornFault;
    }

    public int count(int what) {
        switch (what) {
            case 0: return Integer.bitCount(now.stands);
            case 1: return now.brokenInAll();
            case 2: return now.seen.size;
            case 3: return countKept();
            case 4: return reader.length;
            case 5: return sheets[0].size;
            case 6: return now.allPurses();
            case 7: return now.allNeed();
            default: return BAD;
        }
    }

    private int countKept() {
        int sum = 0;
        for (int k = 0; k < IMAGES; k++) {
            sum += kept[k] ? 1 : 0;
        }
        return sum;
    }

    private static boolean isWithin(int v, int least, int greatest) {
        return v >= least && v <= greatest;
    }

    private static boolean hasBit(int bits, int i) {
        return (bits >> i & 1) != 0;
    }

    private static int bitOf(int bits, int i) {
        return bits >> i & 1;
    }

    private static int withBit(int bits, int i, boolean is) {
        return is ? bits | 1 << i : bits & ~(1 << i);
    }

    private static boolean isPart(int part, int whole) {
        return (part & ~whole) == 0;
    }

    /** What was SEEN, in the order in which it was. */
    private static final class Sightings {
        static final int OF_ONE = 0, OF_LAW = 1;
        static final int FREE = -1;
        // No table has a sum as high as this, so two sightings that differ are met by none.
        static final int NEVER = 99;

        int size;
        final int[] kinds = new int[MOST_SEEN];
        final int[] whose = new int[MOST_SEEN];
        final int[] times = new int[MOST_SEEN];

        boolean append(int kind, int who, int n) {
            if (size >= MOST_SEEN) {
                return false;
            }
            kinds[size] = kind;
            whose[size] = who;
            times[size] = n;
            size++;
            return true;
        }

        int sumDue(int kind, int who) {
            int due = FREE;
            for (int i = 0; i < size; i++) {
                if (kinds[i] == kind && whose[i] == who) {
                    due = due == FREE || due == times[i] ? times[i] : NEVER;
                }
            }
            return due;
        }

        void copyFrom(Sightings other) {
            size = other.size;
            System.arraycopy(other.kinds, 0, kinds, 0, MOST_SEEN);
            System.arraycopy(other.whose, 0, whose, 0, MOST_SEEN);
            System.arraycopy(other.times, 0, times, 0, MOST_SEEN);
        }
    }

    /** All that an IMAGE keeps: LAWS, PEOPLE, what is BROKEN, YEAR, DONE, what was SEEN. */
    private static final class Realm {
        int laws;
        int people;
        int year;
        int done;
        int stands;
        int watched;
        final int[] quota = new int[MOST_LAWS];
        final int[] cap = new int[MOST_LAWS];
        final int[] harm = new int[MOST_LAWS];
        final int[] fine = new int[MOST_LAWS];
        final int[] carries = new int[MOST_LAWS];
        final int[] time = new int[MOST_PEOPLE];
        final int[] clumsy = new int[MOST_PEOPLE];
        final int[] nerve = new int[MOST_PEOPLE];
        final int[] purse = new int[MOST_PEOPLE];
        final int[] refused = new int[MOST_PEOPLE];
        final int[] wanted = new int[MOST_PEOPLE];
        final int[] breakings = new int[MOST_PEOPLE * MOST_LAWS];
        final Sightings seen = new Sightings();

        void empty() {
            laws = 0;
            people = 0;
            year = 0;
            done = 0;
            stands = 0;
            watched = 0;
            seen.size = 0;
            Arrays.fill(refused, 0);
            Arrays.fill(wanted, 0);
            Arrays.fill(breakings, 0);
        }

        void copyFrom(Realm other) {
            laws = other.laws;
            people = other.people;
            year = other.year;
            done = other.done;
            stands = other.stands;
            watched = other.watched;
            System.arraycopy(other.quota, 0, quota, 0, MOST_LAWS);
            System.arraycopy(other.cap, 0, cap, 0, MOST_LAWS);
            System.arraycopy(other.harm, 0, harm, 0, MOST_LAWS);
            System.arraycopy(other.fine, 0, fine, 0, MOST_LAWS);
            System.arraycopy(other.carries, 0, carries, 0, MOST_LAWS);
            System.arraycopy(other.time, 0, time, 0, MOST_PEOPLE);
            System.arraycopy(other.clumsy, 0, clumsy, 0, MOST_PEOPLE);
            System.arraycopy(other.nerve, 0, nerve, 0, MOST_PEOPLE);
            System.arraycopy(other.purse, 0, purse, 0, MOST_PEOPLE);
            System.arraycopy(other.refused, 0, refused, 0, MOST_PEOPLE);
            System.arraycopy(other.wanted, 0, wanted, 0, MOST_PEOPLE);
            System.arraycopy(other.breakings, 0, breakings, 0, MOST_PEOPLE * MOST_LAWS);
            seen.copyFrom(other.seen);
        }

        boolean hasLaw(int l) {
            return l >= 0 && l < laws;
        }

        boolean hasOne(int p) {
            return p >= 0 && p < people;
        }

        boolean hasBoth(int p, int l) {
            return hasOne(p) && hasLaw(l);
        }

        int brokenBy(int p, int l) {
            return breakings[p * MOST_LAWS + l];
        }

        int brokenByOne(int p) {
            int sum = 0;
            for (int l = 0; l < laws; l++) {
                sum += breakings[p * MOST_LAWS + l];
            }
            return sum;
        }

        int brokenInAll() {
            int sum = 0;
            for (int p = 0; p < people; p++) {
                sum += brokenByOne(p);
            }
            return sum;
        }

        int needOf(int l) {
            if (!hasBit(stands, l)) {
                return 0;
            }
            int need = quota[l];
            for (int p = 0; p < people; p++) {
                need -= brokenBy(p, l);
            }
            return Math.max(0, need);
        }

        int allNeed() {
            int sum = 0;
            for (int l = 0; l < laws; l++) {
                sum += needOf(l);
            }
            return sum;
        }

        int allPurses() {
            int sum = 0;
            for (int p = 0; p < people; p++) {
                sum += purse[p];
            }
            return sum;
        }

        /** A chain may run in a ring: after as many steps as there are laws it has met all of its own. */
        int chainOf(int l) {
            int bits = 0;
            int at = l;
            for (int step = 0; step < laws && hasLaw(at); step++) {
                bits |= 1 << at;
                at = carries[at];
            }
            return bits;
        }

        /** How often the law's own cap lets him break it, his time left aside. */
        int roomOf(int p, int l) {
            boolean open = hasBit(stands, l) && !hasBit(refused[p], l);
            return open ? Math.max(0, cap[l] - brokenBy(p, l)) : 0;
        }

        int timeLeft(int p) {
            return Math.max(0, time[p] - brokenByOne(p));
        }

        /** How often he can break this law, were he to break no other. */
        int ableAlone(int p, int l) {
            return Math.min(roomOf(p, l), timeLeft(p));
        }

        int ableWithout(int keptOut, int l) {
            int sum = 0;
            for (int p = 0; p < people; p++) {
                sum += hasBit(keptOut, p) ? 0 : ableAlone(p, l);
            }
            return sum;
        }

        int breakable(int p) {
            int bits = 0;
            for (int l = 0; l < laws; l++) {
                bits |= ableAlone(p, l) > 0 ? 1 << l : 0;
            }
            return bits;
        }

        int breakOnce(int p, int l) {
            if (!hasBoth(p, l)) {
                return BAD;
            }
            int due = hasBit(watched, l) ? fine[l] : 0;
            if (ableAlone(p, l) == 0 || purse[p] < due) {
                return STATE;
            }
            if (done + harm[l] + clumsy[p] > MOST_DONE) {
                return FULL;
            }
            purse[p] -= due;
            return mark(p, l);
        }

        int mark(int p, int l) {
            int hurt = harm[l] + clumsy[p];
            breakings[p * MOST_LAWS + l]++;
            done += hurt;
            return hurt;
        }

        int lapsing() {
            int bits = 0;
            for (int l = 0; l < laws; l++) {
                bits |= needOf(l) > 0 ? chainOf(l) : 0;
            }
            return bits & stands;
        }

        int endYear() {
            int lapsed = lapsing();
            stands &= ~lapsed;
            Arrays.fill(breakings, 0);
            year++;
            return lapsed;
        }

        int met() {
            int bits = 0;
            for (int l = 0; l < laws; l++) {
                bits |= needOf(l) == 0 ? 1 << l : 0;
            }
            return bits & stands;
        }

        /** Every round but the last has a breaking, and time for more than these there is not. */
        int eachForHimself() {
            int sum = 0;
            for (int round = 0; round <= MOST_PEOPLE * MOST_TIME; round++) {
                int before = sum;
                for (int p = 0; p < people; p++) {
                    int l = mostNeeded(p);
                    if (l != NONE) {
                        mark(p, l);
                        sum++;
                    }
                }
                if (sum == before) {
                    break;
                }
            }
            return sum;
        }

        int mostNeeded(int p) {
            int open = breakable(p) & wanted[p];
            int best = NONE;
            int bestNeed = 0;
            for (int l = 0; l < laws; l++) {
                if (hasBit(open, l) && needOf(l) > bestNeed) {
                    best = l;
                    bestNeed = needOf(l);
                }
            }
            return best;
        }

        int breakBySeed(int seed, int tries) {
            if (people <= 0 || laws <= 0) {
                return 0;
            }
            int sum = 0;
            int at = seed;
            for (int i = 0; i < tries; i++) {
                at = nextSeed(at);
                int p = drawn(at) % people;
                at = nextSeed(at);
                int l = drawn(at) % laws;
                sum += breakOnce(p, l) >= 0 ? 1 : 0;
            }
            return sum;
        }

        static int nextSeed(int seed) {
            return seed * 1103515245 + 12345;
        }

        static int drawn(int seed) {
            return seed >>> 16 & 0x7fff;
        }
    }

    /** THE TAPE, and the reading of it into a realm; stops at the first fault. */
    private static final class Reader {
        static final int NO_TOKEN = 1, MISPLACED = 2, OUT_OF_BOUNDS = 3, TWICE = 4, TOO_MANY = 5, NOT_THERE = 6;
        static final int END = 0, NAME = 1, NUMBER = 2, STOP = 3, UNKNOWN = 4;
        static final int MOST_FIGURES = 2;

        final byte[] tape = new byte[TAPE_SIZE];
        int length;
        int fault;
        int faultPlace;
        int lines;
        private int place;
        private int kind;
        private int start;
        private int value;

        boolean append(int c) {
            if (length >= TAPE_SIZE) {
                return false;
            }
            tape[length] = (byte) c;
            length++;
            return true;
        }

        boolean readInto(Realm to) {
            to.empty();
            fault = 0;
            faultPlace = 0;
            lines = 0;
            place = 0;
            boolean open = takeToken();
            // A line has more bytes than one, so no tape holds as many lines as it has places.
            for (int i = 0; i < TAPE_SIZE && open && kind != END; i++) {
                open = takeLine(to) && takeToken();
                lines++;
            }
            return open && (allThere(to) || fail(NOT_THERE, length));
        }

        private boolean takeLine(Realm to) {
            if (isWord("law")) {
                return takeLaw(to, to.laws);
            }
            if (isWord("one")) {
                return takeOne(to, to.people);
            }
            if (isWord("want")) {
                return takeWant(to);
            }
            return isWord("watch") ? takeWatch(to) : fail(MISPLACED, start);
        }

        private boolean takeLaw(Realm to, int l) {
            if (l >= MOST_LAWS) {
                return fail(TOO_MANY, start);
            }
            to.carries[l] = NONE;
            to.stands |= 1 << l;
            to.laws++;
            return takeNumber(0, MOST_QUOTA) && putInto(to.quota, l)
                    && takeNumber(1, MOST_CAP) && putInto(to.cap, l)
                    && takeNumber(0, MOST_HARM) && putInto(to.harm, l)
                    && takeNumber(0, MOST_FINE) && putInto(to.fine, l)
                    && takeToken()
                    && (kind != NUMBER || takeCarried(to, l) && takeToken())
                    && isStop();
        }

        private boolean takeCarried(Realm to, int l) {
            if (!isBounded(0, MOST_LAWS - 1)) {
                return false;
            }
            to.carries[l] = value;
            return value != l || fail(TWICE, start);
        }

        private boolean takeOne(Realm to, int p) {
            if (p >= MOST_PEOPLE) {
                return fail(TOO_MANY, start);
            }
            to.people++;
            boolean open = takeNumber(0, MOST_TIME) && putInto(to.time, p)
                    && takeNumber(0, MOST_CLUMSY) && putInto(to.clumsy, p)
                    && takeNumber(0, MOST_NERVE) && putInto(to.nerve, p)
                    && takeNumber(0, MOST_PURSE) && putInto(to.purse, p)
                    && takeToken();
            // A law can not be refused twice, so the loop meets a fault or another token within this bound.
            for (int i = 0; i <= MOST_LAWS && open && kind == NUMBER; i++) {
                open = isBounded(0, MOST_LAWS - 1) && addLaw(to.refused, p) && takeToken();
            }
            return open && isStop();
        }

        private boolean takeWant(Realm to) {
            if (!takeNumber(0, MOST_PEOPLE - 1)) {
                return false;
            }
            int p = value;
            return takeNumber(0, MOST_LAWS - 1) && addLaw(to.wanted, p) && takeToken() && isStop();
        }

        private boolean takeWatch(Realm to) {
            if (!takeNumber(0, MOST_LAWS - 1)) {
                return false;
            }
            if (hasBit(to.watched, value)) {
                return fail(TWICE, start);
            }
            to.watched |= 1 << value;
            return takeToken() && isStop();
        }

        private boolean addLaw(int[] bits, int p) {
            if (hasBit(bits[p], value)) {
                return fail(TWICE, start);
            }
            bits[p] |= 1 << value;
            return true;
        }

        /** Laws and people may be named ahead of their lines, so this is asked behind all lines. */
        private static boolean allThere(Realm to) {
            int every = (1 << to.laws) - 1;
            if (!isPart(to.watched, every)) {
                return false;
            }
            for (int l = 0; l < to.laws; l++) {
                if (to.carries[l] != NONE && !to.hasLaw(to.carries[l])) {
                    return false;
                }
            }
            for (int p = 0; p < MOST_PEOPLE; p++) {
                boolean missing = !to.hasOne(p) && to.wanted[p] != 0;
                if (missing || !isPart(to.refused[p] | to.wanted[p], every)) {
                    return false;
                }
            }
            return true;
        }

        private boolean putInto(int[] row, int i) {
            row[i] = value;
            return true;
        }

        private boolean takeNumber(int least, int greatest) {
            if (!takeToken()) {
                return false;
            }
            return kind == NUMBER ? isBounded(least, greatest) : fail(MISPLACED, start);
        }

        private boolean isBounded(int least, int greatest) {
            return isWithin(value, least, greatest) || fail(OUT_OF_BOUNDS, start);
        }

        private boolean isStop() {
            return kind == STOP || fail(MISPLACED, start);
        }

        private boolean isWord(String word) {
            if (kind != NAME || place - start != word.length()) {
                return false;
            }
            for (int i = 0; i < word.length(); i++) {
                if (tape[start + i] != word.charAt(i)) {
                    return false;
                }
            }
            return true;
        }

        private boolean takeToken() {
            passRun(' ', ' ');
            start = place;
            kind = kindHere();
            switch (kind) {
                case NAME:
                    passRun('a', 'z');
                    return true;
                case NUMBER:
                    passRun('0', '9');
                    value = valueOfRun();
                    return place - start <= MOST_FIGURES || fail(NO_TOKEN, start);
                case STOP:
                    place++;
                    return true;
                case END:
                    return true;
                default:
                    return fail(NO_TOKEN, start);
            }
        }

        private int kindHere() {
            if (place >= length) {
                return END;
            }
            int c = tape[place];
            if (c == ';') {
                return STOP;
            }
            if (c >= 'a' && c <= 'z') {
                return NAME;
            }
            return c >= '0' && c <= '9' ? NUMBER : UNKNOWN;
        }

        private void passRun(int least, int greatest) {
            while (place < length && tape[place] >= least && tape[place] <= greatest) {
                place++;
            }
        }

        private int valueOfRun() {
            int sum = 0;
            for (int i = start; i < place; i++) {
                sum = sum * 10 + tape[i] - '0';
            }
            return sum;
        }

        private boolean fail(int which, int where) {
            fault = which;
            faultPlace = where;
            return false;
        }
    }

    /** A row of cells of a lane, or nothing. */
    private static final class Sheet {
        static final int BYTES = 0, SHORTS = 1;

        // Nothing is the size NONE, so that the size answers count().
        int size = NONE;
        private int lane;
        private final int[] cells = new int[MOST_CELLS];

        void renew(int newLane, int n) {
            lane = newLane;
            size = n;
            Arrays.fill(cells, 0);
        }

        void put(int i, int v) {
            cells[i] = lane == BYTES ? (byte) v : lane == SHORTS ? (short) v : v;
        }

        int cellAt(long i) {
            return cells[(int) i];
        }

        int faultAt(long i) {
            if (size == NONE) {
                return FAULT_NULL;
            }
            return i < 0 || i >= size ? FAULT_INDEX : 0;
        }

        int faultOfPair(long i) {
            int found = faultAt(i);
            return found != 0 ? found : faultAt(i + 1);
        }

        /** Nothing can be taken as of any lane: the machine finds NULL only when a cell is asked. */
        int faultAs(int asLane) {
            return size == NONE || lane == asLane ? 0 : FAULT_CAST;
        }
    }

    /** Who could break what how often more so that every need is met. */
    private static final class Planner {
        static final int SIDE = MOST_TIME + 1;
        static final int IMPOSSIBLE = 1000000;

        private int laws;
        private final int[] left = new int[MOST_PEOPLE];
        private final int[] need = new int[MOST_LAWS];
        private final int[] needAhead = new int[MOST_LAWS + 1];
        private final int[] room = new int[MOST_PEOPLE * MOST_LAWS];
        private final int[] harm = new int[MOST_PEOPLE * MOST_LAWS];
        private final int[] first = new int[MOST_PEOPLE * MOST_LAWS];
        private final int[] best = new int[(MOST_LAWS + 1) * SIDE * SIDE];

        void load(Realm from) {
            laws = from.laws;
            Arrays.fill(room, 0);
            for (int p = 0; p < MOST_PEOPLE; p++) {
                left[p] = from.hasOne(p) ? from.timeLeft(p) : 0;
            }
            for (int l = 0; l < laws; l++) {
                need[l] = from.needOf(l);
                needAhead[l + 1] = needAhead[l] + need[l];
                for (int p = 0; p < from.people; p++) {
                    room[p * MOST_LAWS + l] = from.roomOf(p, l);
                    harm[p * MOST_LAWS + l] = from.harm[l] + from.clumsy[p];
                }
            }
        }

        /** Only for canMeet(): the table of leastHarm() has no room for more time than the document's most. */
        void grant(int p, int time) {
            left[p] = Math.max(0, time);
        }

        /** That no part of the set asks for more than all can give to that part is enough: least cut, greatest flow. */
        boolean canMeet(int set) {
            for (int part = 1; part <= set; part++) {
                if (isPart(part, set) && needOfAll(part) > givenTo(part)) {
                    return false;
                }
            }
            return true;
        }

        private int needOfAll(int set) {
            int sum = 0;
            for (int l = 0; l < laws; l++) {
                sum += hasBit(set, l) ? need[l] : 0;
            }
            return sum;
        }

        private int givenTo(int set) {
            int sum = 0;
            for (int p = 0; p < MOST_PEOPLE; p++) {
                int open = 0;
                for (int l = 0; l < laws; l++) {
                    open += hasBit(set, l) ? room[p * MOST_LAWS + l] : 0;
                }
                sum += Math.min(open, left[p]);
            }
            return sum;
        }

        /** From the last law to the first: the least harm for what time is left to each. */
        int leastHarm() {
            Arrays.fill(best, IMPOSSIBLE);
            for (int l = laws; l >= 0; l--) {
                for (int left0 = 0; left0 <= left[0]; left0++) {
                    for (int left1 = 0; left1 <= left[1]; left1++) {
                        if (leftToLast(l, left0, left1) >= 0) {
                            best[stateOf(l, left0, left1)] = l == laws ? 0 : search(l, left0, left1);
                        }
                    }
                }
            }
            int least = best[stateOf(0, left[0], left[1])];
            return least < IMPOSSIBLE ? least : NONE;
        }

        /** Walks the table of leastHarm(), which has to be asked ahead. */
        int timesInFirst(int p, int l) {
            int left0 = left[0];
            int left1 = left[1];
            for (int i = 0; i <= l; i++) {
                search(i, left0, left1);
                left0 -= first[i];
                left1 -= first[MOST_LAWS + i];
            }
            return first[p * MOST_LAWS + l];
        }

        /** Each law is broken just as often as it needs: so the time of two tells that of the third. */
        private int leftToLast(int l, int left0, int left1) {
            return left[2] - needAhead[l] + left[0] - left0 + left[1] - left1;
        }

        private static int stateOf(int l, int left0, int left1) {
            return (l * SIDE + left0) * SIDE + left1;
        }

        /** Goes from few breakings to many, so that of several the first stays. */
        private int search(int l, int left0, int left1) {
            int least = IMPOSSIBLE;
            int most0 = Math.min(room[l], left0);
            int most1 = Math.min(room[MOST_LAWS + l], left1);
            int most2 = Math.min(room[2 * MOST_LAWS + l], leftToLast(l, left0, left1));
            for (int n0 = 0; n0 <= most0; n0++) {
                for (int n1 = 0; n1 <= most1; n1++) {
                    int n2 = need[l] - n0 - n1;
                    if (isWithin(n2, 0, most2)) {
                        int sum = n0 * harm[l] + n1 * harm[MOST_LAWS + l] + n2 * harm[2 * MOST_LAWS + l]
                                + best[stateOf(l + 1, left0 - n0, left1 - n1)];
                        if (sum < least) {
                            least = sum;
                            first[l] = n0;
                            first[MOST_LAWS + l] = n1;
                            first[2 * MOST_LAWS + l] = n2;
                        }
                    }
                }
            }
            return least;
        }
    }

    /** Counts the TABLES that fit by what each of three has spent of his time. */
    private static final class Tables {
        static final int SIDE = MOST_TIME + 1;

        private int laws;
        private final int[] low = new int[MOST_PEOPLE * MOST_LAWS];
        private final int[] high = new int[MOST_PEOPLE * MOST_LAWS];
        private final int[] lawDue = new int[MOST_LAWS];
        private final int[] oneDue = new int[MOST_PEOPLE];
        private final int[] time = new int[MOST_PEOPLE];
        private final long[] alone = new long[MOST_PEOPLE * SIDE];
        private final long[] ways = new long[SIDE * SIDE * SIDE];

        void load(Realm from) {
            laws = from.laws;
            Arrays.fill(low, 0);
            Arrays.fill(high, 0);
            for (int l = 0; l < laws; l++) {
                lawDue[l] = from.seen.sumDue(Sightings.OF_LAW, l);
            }
            for (int p = 0; p < MOST_PEOPLE; p++) {
                boolean there = from.hasOne(p);
                oneDue[p] = there ? from.seen.sumDue(Sightings.OF_ONE, p) : Sightings.FREE;
                time[p] = there ? from.time[p] : 0;
                for (int l = 0; l < laws; l++) {
                    boolean open = there && !hasBit(from.refused[p], l);
                    high[p * MOST_LAWS + l] = open ? from.cap[l] : 0;
                }
            }
        }

        int firstThatFits(int p, int l, boolean fromTop) {
            int cell = p * MOST_LAWS + l;
            int top = high[cell];
            for (int i = 0; i <= top; i++) {
                int v = fromTop ? top - i : i;
                low[cell] = v;
                high[cell] = v;
                if (fitting() > 0L) {
                    return v;
                }
            }
            return NONE;
        }

        /** Laws that nobody has seen tie no one to another, so each spends on them alone. */
        long fitting() {
            Arrays.fill(alone, 0L);
            for (int p = 0; p < MOST_PEOPLE; p++) {
                alone[p * SIDE] = 1L;
                for (int l = 0; l < laws; l++) {
                    if (lawDue[l] == Sightings.FREE) {
                        spendAlone(p, l);
                    }
                }
            }
            joinAll();
            for (int l = 0; l < laws; l++) {
                if (lawDue[l] != Sightings.FREE) {
                    spendTogether(l);
                }
            }
            return sumOfDue();
        }

        /** From the top down, in place: what is read lies no higher than what is written. */
        private void spendAlone(int p, int l) {
            int least = low[p * MOST_LAWS + l];
            int greatest = high[p * MOST_LAWS + l];
            for (int spent = time[p]; spent >= 0; spent--) {
                long sum = 0L;
                for (int n = least; n <= greatest && n <= spent; n++) {
                    sum += alone[p * SIDE + spent - n];
                }
                alone[p * SIDE + spent] = sum;
            }
        }

        private void joinAll() {
            for (int spent0 = 0; spent0 <= time[0]; spent0++) {
                for (int spent1 = 0; spent1 <= time[1]; spent1++) {
                    for (int spent2 = 0; spent2 <= time[2]; spent2++) {
                        ways[stateOf(spent0, spent1, spent2)] =
                                alone[spent0] * alone[SIDE + spent1] * alone[2 * SIDE + spent2];
                    }
                }
            }
        }

        private void spendTogether(int l) {
            for (int spent0 = time[0]; spent0 >= 0; spent0--) {
                for (int spent1 = time[1]; spent1 >= 0; spent1--) {
                    for (int spent2 = time[2]; spent2 >= 0; spent2--) {
                        ways[stateOf(spent0, spent1, spent2)] = waysTo(spent0, spent1, spent2, l);
                    }
                }
            }
        }

        private long waysTo(int spent0, int spent1, int spent2, int l) {
            int most0 = Math.min(high[l], spent0);
            int most1 = Math.min(high[MOST_LAWS + l], spent1);
            int most2 = Math.min(high[2 * MOST_LAWS + l], spent2);
            long sum = 0L;
            for (int n0 = low[l]; n0 <= most0; n0++) {
                for (int n1 = low[MOST_LAWS + l]; n1 <= most1; n1++) {
                    int n2 = lawDue[l] - n0 - n1;
                    if (isWithin(n2, low[2 * MOST_LAWS + l], most2)) {
                        sum += ways[stateOf(spent0 - n0, spent1 - n1, spent2 - n2)];
                    }
                }
            }
            return sum;
        }

        private long sumOfDue() {
            long sum = 0L;
            for (int spent0 = 0; spent0 <= time[0]; spent0++) {
                for (int spent1 = 0; spent1 <= time[1]; spent1++) {
                    for (int spent2 = 0; spent2 <= time[2]; spent2++) {
                        if (isDueOf(0, spent0) && isDueOf(1, spent1) && isDueOf(2, spent2)) {
                            sum += ways[stateOf(spent0, spent1, spent2)];
                        }
                    }
                }
            }
            return sum;
        }

        private boolean isDueOf(int p, int spent) {
            return oneDue[p] == Sightings.FREE || oneDue[p] == spent;
        }

        private static int stateOf(int spent0, int spent1, int spent2) {
            return (spent0 * SIDE + spent1) * SIDE + spent2;
        }
    }

    /** How likely it is that tries by nerve meet a need, as a fraction in lowest terms. */
    private static final class Odds {
        static final int MOST_BREAKINGS = MOST_PEOPLE * MOST_CAP;
        static final int MOST_STEPS = 100;

        long over;
        long under;
        private final long[] weights = new long[MOST_BREAKINGS + 1];

        void weigh(Realm from, int l) {
            Arrays.fill(weights, 0L);
            weights[0] = 1L;
            under = 1L;
            for (int p = 0; p < from.people; p++) {
                int tries = from.ableAlone(p, l);
                for (int i = 0; i < tries; i++) {
                    addTry(from.nerve[p]);
                }
            }
            over = 0L;
            for (int n = from.needOf(l); n <= MOST_BREAKINGS; n++) {
                over += weights[n];
            }
            reduce();
        }

        private void addTry(int nerve) {
            for (int n = MOST_BREAKINGS; n > 0; n--) {
                weights[n] = weights[n] * (MOST_NERVE - nerve) + weights[n - 1] * nerve;
            }
            weights[0] *= MOST_NERVE - nerve;
            under *= MOST_NERVE;
        }

        private void reduce() {
            long a = under;
            long b = over;
            for (int i = 0; i < MOST_STEPS && b != 0L; i++) {
                long rest = a % b;
                a = b;
                b = rest;
            }
            if (a > 0L) {
                over /= a;
                under /= a;
            }
        }
    }
}
