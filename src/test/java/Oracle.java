import java.util.ArrayList;
import java.util.List;

/** A second reading of the document, by brute force and with the Java library: what the program is tested against. */
final class Oracle {
    static final int BAD = -1, STATE = -2, FULL = -3, NONE = -4;

    static final class Law {
        int quota, cap, harm, fine, carries = NONE;
        boolean stands = true, watched;

        Law copy() {
            Law c = new Law();
            c.quota = quota;
            c.cap = cap;
            c.harm = harm;
            c.fine = fine;
            c.carries = carries;
            c.stands = stands;
            c.watched = watched;
            return c;
        }
    }

    static final class One {
        int time, clumsy, nerve, purse;
        boolean[] refuses = new boolean[5], wants = new boolean[5];
        int[] broke = new int[5];

        One copy() {
            One c = new One();
            c.time = time;
            c.clumsy = clumsy;
            c.nerve = nerve;
            c.purse = purse;
            c.refuses = refuses.clone();
            c.wants = wants.clone();
            c.broke = broke.clone();
            return c;
        }

        int all() {
            int sum = 0;
            for (int n : broke) {
                sum += n;
            }
            return sum;
        }
    }

    static final class World {
        List<Law> laws = new ArrayList<>();
        List<One> people = new ArrayList<>();
        int year, done;
        List<int[]> seen = new ArrayList<>();

        World copy() {
            World c = new World();
            for (Law law : laws) {
                c.laws.add(law.copy());
            }
            for (One one : people) {
                c.people.add(one.copy());
            }
            c.year = year;
            c.done = done;
            c.seen.addAll(seen);
            return c;
        }

        boolean law(int l) {
            return l >= 0 && l < laws.size();
        }

        boolean one(int p) {
            return p >= 0 && p < people.size();
        }

        boolean can(int p, int l) {
            Law law = laws.get(l);
            One one = people.get(p);
            return law.stands && !one.refuses[l] && one.broke[l] < law.cap && one.all() < one.time;
        }

        int need(int l) {
            if (!laws.get(l).stands) {
                return 0;
            }
            int n = laws.get(l).quota;
            for (One one : people) {
                n -= one.broke[l];
            }
            return n < 0 ? 0 : n;
        }

        /** How often he can, by letting him do it on a copy. */
        int tries(int p, int l) {
            World c = copy();
            int n = 0;
            while (c.can(p, l)) {
                c.people.get(p).broke[l]++;
                n++;
            }
            return n;
        }

        int chain(int l) {
            int bits = 0;
            while (l != NONE && (bits & 1 << l) == 0) {
                bits |= 1 << l;
                l = laws.get(l).carries;
            }
            return bits;
        }

        int standing() {
            int bits = 0;
            for (int l = 0; l < laws.size(); l++) {
                bits |= laws.get(l).stands ? 1 << l : 0;
            }
            return bits;
        }

        int falls() {
            int bits = 0;
            for (int l = 0; l < laws.size(); l++) {
                if (laws.get(l).stands && need(l) != 0) {
                    bits |= chain(l);
                }
            }
            return bits & standing();
        }

        int breaks(int p, int l) {
            if (!one(p) || !law(l)) {
                return BAD;
            }
            Law law = laws.get(l);
            One one = people.get(p);
            if (!can(p, l) || law.watched && one.purse < law.fine) {
                return STATE;
            }
            int harm = law.harm + one.clumsy;
            if (done + harm > 9999) {
                return FULL;
            }
            one.broke[l]++;
            done += harm;
            if (law.watched) {
                one.purse -= law.fine;
            }
            return harm;
        }
    }

    static final class Fault extends RuntimeException {
        final int which, place;

        Fault(int which, int place) {
            super(null, null, false, false);
            this.which = which;
            this.place = place;
        }
    }

    World w = new World();
    final World[] images = new World[2];
    final Object[] sheets = new Object[4];
    StringBuilder tape = new StringBuilder();
    int fault, torn;

    // ---- the text

    int feed(int c) {
        if (c < 0 || c > 127) {
            return BAD;
        }
        if (tape.length() == 160) {
            return FULL;
        }
        tape.append((char) c);
        return tape.length();
    }

    int end(int n) {
        if (n < 0 || n > tape.length()) {
            return BAD;
        }
        int had = tape.length();
        tape.setLength(n);
        return had;
    }

    private String source, token;
    private int at, start;

    private String next() {
        while (at < source.length() && source.charAt(at) == ' ') {
            at++;
        }
        start = at;
        String rest = source.substring(at);
        token = rest.replaceFirst("(?s)^([a-z]+|[0-9]+|;|).*$", "$1");
        if (token.isEmpty() && !rest.isEmpty() || token.matches("[0-9]{3,}")) {
            throw new Fault(1, start);
        }
        at += token.length();
        return token;
    }

    private int number(int least, int most) {
        next();
        if (!token.matches("[0-9]+")) {
            throw new Fault(2, start);
        }
        return bounded(least, most);
    }

    private int bounded(int least, int most) {
        int n = Integer.parseInt(token);
        if (n < least || n > most) {
            throw new Fault(3, start);
        }
        return n;
    }

    private void stop() {
        if (!token.equals(";")) {
            throw new Fault(2, start);
        }
    }

    int text() {
        source = tape.toString();
        tape = new StringBuilder();
        at = 0;
        fault = 0;
        try {
            World told = new World();
            int lines = parse(told);
            w = told;
            images[0] = null;
            images[1] = null;
            return lines;
        } catch (Fault f) {
            fault = f.which;
            return -10 - f.place;
        }
    }

    private int parse(World to) {
        int lines = 0;
        boolean[][] wants = new boolean[3][5];
        boolean[] watched = new boolean[5];
        while (!next().isEmpty()) {
            switch (token) {
                case "law": law(to); break;
                case "one": one(to); break;
                case "want": {
                    int p = number(0, 2);
                    int l = number(0, 4);
                    if (wants[p][l]) {
                        throw new Fault(4, start);
                    }
                    wants[p][l] = true;
                    next();
                    stop();
                    break;
                }
                case "watch": {
                    int l = number(0, 4);
                    if (watched[l]) {
                        throw new Fault(4, start);
                    }
                    watched[l] = true;
                    next();
                    stop();
                    break;
                }
                default: throw new Fault(2, start);
            }
            lines++;
        }
        Fault missing = new Fault(6, source.length());
        for (int l = 0; l < 5; l++) {
            if (watched[l] && !to.law(l)) {
                throw missing;
            }
            if (watched[l]) {
                to.laws.get(l).watched = true;
            }
            for (int p = 0; p < 3; p++) {
                if (wants[p][l] && !(to.law(l) && to.one(p))) {
                    throw missing;
                }
                if (wants[p][l]) {
                    to.people.get(p).wants[l] = true;
                }
                if (to.one(p) && to.people.get(p).refuses[l] && !to.law(l)) {
                    throw missing;
                }
            }
        }
        for (Law law : to.laws) {
            if (law.carries != NONE && !to.law(law.carries)) {
                throw missing;
            }
        }
        return lines;
    }

    private void law(World to) {
        if (to.laws.size() == 5) {
            throw new Fault(5, start);
        }
        Law law = new Law();
        law.quota = number(0, 9);
        law.cap = number(1, 3);
        law.harm = number(0, 9);
        law.fine = number(0, 9);
        if (!next().equals(";")) {
            if (!token.matches("[0-9]+")) {
                throw new Fault(2, start);
            }
            law.carries = bounded(0, 4);
            if (law.carries == to.laws.size()) {
                throw new Fault(4, start);
            }
            next();
        }
        stop();
        to.laws.add(law);
    }

    private void one(World to) {
        if (to.people.size() == 3) {
            throw new Fault(5, start);
        }
        One one = new One();
        one.time = number(0, 5);
        one.clumsy = number(0, 3);
        one.nerve = number(0, 10);
        one.purse = number(0, 99);
        while (next().matches("[0-9]+")) {
            int l = bounded(0, 4);
            if (one.refuses[l]) {
                throw new Fault(4, start);
            }
            one.refuses[l] = true;
        }
        stop();
        to.people.add(one);
    }

    int fault() {
        return fault;
    }

    int rule(int what) {
        int watched = 0;
        for (int l = 0; l < w.laws.size(); l++) {
            watched += w.laws.get(l).watched ? 1 << l : 0;
        }
        int[] all = {w.laws.size(), w.people.size(), w.year, w.done, w.standing(), watched};
        return what < 0 || what >= all.length ? BAD : all[what];
    }

    int law(int l, int what) {
        if (!w.law(l)) {
            return BAD;
        }
        Law law = w.laws.get(l);
        int[] all = {law.quota, law.cap, law.harm, law.fine, law.carries, w.need(l), w.chain(l)};
        return what < 0 || what >= all.length ? BAD : all[what];
    }

    private static int bits(boolean[] set) {
        int bits = 0;
        for (int i = 0; i < set.length; i++) {
            bits += set[i] ? 1 << i : 0;
        }
        return bits;
    }

    int one(int p, int what) {
        if (!w.one(p)) {
            return BAD;
        }
        One one = w.people.get(p);
        int can = 0;
        for (int l = 0; l < w.laws.size(); l++) {
            can += w.can(p, l) ? 1 << l : 0;
        }
        int[] all = {one.time, one.clumsy, one.nerve, one.purse, bits(one.refuses), bits(one.wants), one.all(), can};
        return what < 0 || what >= all.length ? BAD : all[what];
    }

    int broken(int p, int l) {
        return w.one(p) && w.law(l) ? w.people.get(p).broke[l] : BAD;
    }

    // ---- what is changed

    int quota(int l, int v) {
        if (!w.law(l) || v < 0 || v > 9) {
            return BAD;
        }
        int was = w.laws.get(l).quota;
        w.laws.get(l).quota = v;
        return was;
    }

    int carry(int l, int m) {
        if (!w.law(l) || !(m == NONE || w.law(m)) || l == m) {
            return BAD;
        }
        int was = w.laws.get(l).carries;
        w.laws.get(l).carries = m;
        return was;
    }

    int watch(int l, boolean is) {
        if (!w.law(l)) {
            return BAD;
        }
        boolean was = w.laws.get(l).watched;
        w.laws.get(l).watched = is;
        return was ? 1 : 0;
    }

    int time(int p, int v) {
        if (!w.one(p) || v < 0 || v > 5) {
            return BAD;
        }
        int was = w.people.get(p).time;
        w.people.get(p).time = v;
        return was;
    }

    int refuse(int p, int l, boolean is) {
        if (!w.one(p) || !w.law(l)) {
            return BAD;
        }
        boolean was = w.people.get(p).refuses[l];
        w.people.get(p).refuses[l] = is;
        return was ? 1 : 0;
    }

    int want(int p, int l, boolean is) {
        if (!w.one(p) || !w.law(l)) {
            return BAD;
        }
        boolean was = w.people.get(p).wants[l];
        w.people.get(p).wants[l] = is;
        return was ? 1 : 0;
    }

    int fund(int p, int v) {
        if (!w.one(p) || v < 0 || v > 99) {
            return BAD;
        }
        int was = w.people.get(p).purse;
        w.people.get(p).purse = v;
        return was;
    }

    int revive(int l) {
        if (!w.law(l)) {
            return BAD;
        }
        if (w.laws.get(l).stands) {
            return STATE;
        }
        w.laws.get(l).stands = true;
        return Integer.bitCount(w.standing());
    }

    // ---- breakings, years

    int breaks(int p, int l) {
        return w.breaks(p, l);
    }

    int year() {
        if (w.year + 1 == 1000) {
            return FULL;
        }
        int falls = w.falls();
        for (int l = 0; l < w.laws.size(); l++) {
            if ((falls >> l & 1) == 1) {
                w.laws.get(l).stands = false;
            }
        }
        for (One one : w.people) {
            one.broke = new int[5];
        }
        w.year++;
        return falls;
    }

    int falls() {
        return w.falls();
    }

    int most(int what) {
        if (what != 0 && what != 1) {
            return BAD;
        }
        for (int size = 5; size > 0; size--) {
            for (int l = 0; l < w.laws.size(); l++) {
                if (w.laws.get(l).stands && Integer.bitCount(w.chain(l) & w.standing()) == size) {
                    return what == 0 ? l : size;
                }
            }
        }
        return NONE;
    }

    // ---- rotas

    private int rotaHarm;
    private int[] rotaPlan;
    private int rotaPeople;
    private int[] rotaTime;
    private int[] rotaNeed;

    /** All rotas in their order, cell by cell, those of the laws in the set alone; keeps the first of least harm. */
    private void allRotas(int set, int[] extra, boolean any) {
        rotaHarm = Integer.MAX_VALUE;
        rotaPlan = null;
        rotaPeople = w.people.size();
        rotaTime = new int[3];
        rotaNeed = new int[5];
        for (int p = 0; p < rotaPeople; p++) {
            rotaTime[p] = w.people.get(p).time + extra[p] - w.people.get(p).all();
        }
        for (int l = 0; l < w.laws.size(); l++) {
            rotaNeed[l] = (set >> l & 1) == 1 ? w.need(l) : 0;
        }
        fill(new int[15], 0, 0, any);
    }

    private void fill(int[] plan, int cell, int harm, boolean any) {
        if (any && rotaPlan != null) {
            return;
        }
        int l = cell / 3;
        int p = cell % 3;
        if (p == 0 && l > 0 && plan[cell - 3] + plan[cell - 2] + plan[cell - 1] != rotaNeed[l - 1]) {
            return;
        }
        if (l == w.laws.size()) {
            if (harm < rotaHarm) {
                rotaHarm = harm;
                rotaPlan = plan.clone();
            }
            return;
        }
        int most = 0;
        if (p < rotaPeople && w.laws.get(l).stands && !w.people.get(p).refuses[l]) {
            most = Math.min(w.laws.get(l).cap - w.people.get(p).broke[l], rotaTime[p]);
        }
        for (int n = 0; n == 0 || n <= most; n++) {
            plan[cell] = n;
            rotaTime[p] -= n;
            int each = p < rotaPeople ? w.laws.get(l).harm + w.people.get(p).clumsy : 0;
            fill(plan, cell + 1, harm + n * each, any);
            rotaTime[p] += n;
        }
        plan[cell] = 0;
    }

    int rota(int what) {
        boolean cell = what >= 10 && w.law((what - 10) / 3) && w.one((what - 10) % 3);
        if (what != 0 && !cell) {
            return BAD;
        }
        allRotas(31, new int[3], false);
        if (rotaPlan == null) {
            return NONE;
        }
        return what == 0 ? rotaHarm : rotaPlan[what - 10];
    }

    int more(int p) {
        if (!w.one(p)) {
            return BAD;
        }
        for (int more = 0; more <= 9; more++) {
            int[] extra = new int[3];
            extra[p] = more;
            allRotas(31, extra, true);
            if (rotaPlan != null) {
                return more;
            }
        }
        return NONE;
    }

    int together(int what) {
        if (what != 0 && what != 1) {
            return BAD;
        }
        for (int size = 5; size >= 0; size--) {
            for (int set = 0; set < 32; set++) {
                if (Integer.bitCount(set) == size && (set & ~w.standing()) == 0) {
                    allRotas(set, new int[3], true);
                    if (rotaPlan != null) {
                        return what == 0 ? size : set;
                    }
                }
            }
        }
        return 0;
    }

    int kill(int l, int what) {
        if (!w.law(l) || what != 0 && what != 1) {
            return BAD;
        }
        if (!w.laws.get(l).stands) {
            return STATE;
        }
        for (int size = 0; size <= w.people.size(); size++) {
            for (int set = 0; set < 1 << w.people.size(); set++) {
                int sum = 0;
                for (int p = 0; p < w.people.size(); p++) {
                    sum += (set >> p & 1) == 1 ? 0 : w.tries(p, l);
                }
                if (Integer.bitCount(set) == size && sum < w.need(l)) {
                    return what == 0 ? size : set;
                }
            }
        }
        return NONE;
    }

    int selfish(int what) {
        if (what < 0 || what > 2) {
            return BAD;
        }
        World c = w.copy();
        int sum = 0;
        int harm = 0;
        boolean again = true;
        while (again) {
            again = false;
            for (int p = 0; p < c.people.size(); p++) {
                int best = -1;
                for (int l = c.laws.size() - 1; l >= 0; l--) {
                    if (c.people.get(p).wants[l] && c.can(p, l) && c.need(l) != 0
                            && (best < 0 || c.need(l) >= c.need(best))) {
                        best = l;
                    }
                }
                if (best >= 0) {
                    c.people.get(p).broke[best]++;
                    sum++;
                    harm += c.laws.get(best).harm + c.people.get(p).clumsy;
                    again = true;
                }
            }
        }
        int met = 0;
        for (int l = 0; l < c.laws.size(); l++) {
            met += c.laws.get(l).stands && c.need(l) == 0 ? 1 << l : 0;
        }
        return what == 0 ? met : what == 1 ? sum : harm;
    }

    // ---- odds

    long luck(int l, int what) {
        if (!w.law(l) || what != 0 && what != 1) {
            return BAD;
        }
        List<Integer> nerves = new ArrayList<>();
        for (int p = 0; p < w.people.size(); p++) {
            for (int i = w.tries(p, l); i > 0; i--) {
                nerves.add(w.people.get(p).nerve);
            }
        }
        long over = 0;
        long under = 0;
        for (int outcome = 0; outcome < 1 << nerves.size(); outcome++) {
            long weight = 1;
            for (int i = 0; i < nerves.size(); i++) {
                weight *= (outcome >> i & 1) == 1 ? nerves.get(i) : 10 - nerves.get(i);
            }
            under += weight;
            over += Integer.bitCount(outcome) >= w.need(l) ? weight : 0;
        }
        long g = java.math.BigInteger.valueOf(over).gcd(java.math.BigInteger.valueOf(under)).longValue();
        return what == 0 ? over / g : under / g;
    }

    // ---- books

    int see(int what, int a, int n) {
        if (!(what == 0 && w.one(a) || what == 1 && w.law(a)) || n < 0 || n > 20) {
            return BAD;
        }
        if (w.seen.size() == 8) {
            return FULL;
        }
        w.seen.add(new int[] {what, a, n});
        return w.seen.size();
    }

    int forget(int n) {
        if (n < 0 || n > w.seen.size()) {
            return BAD;
        }
        int had = w.seen.size();
        w.seen = new ArrayList<>(w.seen.subList(0, n));
        return had;
    }

    private long fit;
    private int[][] low, high;

    private void tables(int[][] table, int cell) {
        int laws = w.laws.size();
        if (cell == laws * w.people.size()) {
            for (int[] s : w.seen) {
                int sum = 0;
                for (int i = 0; i < (s[0] == 0 ? laws : w.people.size()); i++) {
                    sum += s[0] == 0 ? table[s[1]][i] : table[i][s[1]];
                }
                if (sum != s[2]) {
                    return;
                }
            }
            fit++;
            for (int p = 0; p < w.people.size(); p++) {
                for (int l = 0; l < laws; l++) {
                    low[p][l] = Math.min(low[p][l], table[p][l]);
                    high[p][l] = Math.max(high[p][l], table[p][l]);
                }
            }
            return;
        }
        int p = cell / laws;
        int l = cell % laws;
        One one = w.people.get(p);
        int spent = 0;
        for (int i = 0; i < l; i++) {
            spent += table[p][i];
        }
        for (int n = 0; n <= (one.refuses[l] ? 0 : w.laws.get(l).cap) && spent + n <= one.time; n++) {
            table[p][l] = n;
            tables(table, cell + 1);
        }
        table[p][l] = 0;
    }

    long books() {
        fit = 0;
        low = new int[3][5];
        high = new int[3][5];
        for (int[] row : low) {
            java.util.Arrays.fill(row, 9);
        }
        tables(new int[3][5], 0);
        return fit;
    }

    int entry(int p, int l, int what) {
        if (!w.one(p) || !w.law(l) || what != 0 && what != 1) {
            return BAD;
        }
        return books() == 0 ? NONE : what == 0 ? low[p][l] : high[p][l];
    }

    // ---- by a seed

    int wild(int seed, int n, int what) {
        if (n < 1 || n > 60 || what != 0 && what != 1) {
            return BAD;
        }
        if (w.people.isEmpty() || w.laws.isEmpty()) {
            return STATE;
        }
        World c = w.copy();
        int sum = 0;
        for (int i = 0; i < n; i++) {
            seed = seed * 1103515245 + 12345;
            int p = (seed >> 16 & 0x7fff) % c.people.size();
            seed = seed * 1103515245 + 12345;
            int l = (seed >> 16 & 0x7fff) % c.laws.size();
            if (c.breaks(p, l) >= 0) {
                sum++;
            }
        }
        return what == 0 ? sum : c.falls();
    }

    // ---- images, sheets

    int keep(int k) {
        if (k != 0 && k != 1) {
            return BAD;
        }
        int was = images[k] == null ? 0 : 1;
        images[k] = w.copy();
        return was;
    }

    int back(int k) {
        if (k != 0 && k != 1) {
            return BAD;
        }
        if (images[k] == null) {
            return STATE;
        }
        w = images[k].copy();
        return w.year;
    }

    int sheet(int k, int lane, int n) {
        if (k < 0 || k > 3 || lane < 0 || lane > 2 || n > 40) {
            return BAD;
        }
        try {
            sheets[k] = lane == 0 ? new byte[n] : lane == 1 ? new short[n] : new int[n];
            return 1;
        } catch (NegativeArraySizeException e) {
            return -14;
        }
    }

    int lay(int k, int i, int v) {
        if (k < 0 || k > 3) {
            return BAD;
        }
        try {
            if (sheets[k] instanceof byte[]) {
                ((byte[]) sheets[k])[i] = (byte) v;
            } else if (sheets[k] instanceof short[]) {
                ((short[]) sheets[k])[i] = (short) v;
            } else {
                ((int[]) sheets[k])[i] = v;
            }
            return 1;
        } catch (NullPointerException e) {
            return -11;
        } catch (ArrayIndexOutOfBoundsException e) {
            return -12;
        }
    }

    int read(int k, int lane, int f, int n) {
        if (k < 0 || k > 3 || lane < 0 || lane > 2 || n < 0 || n > 20) {
            return BAD;
        }
        World before = w.copy();
        int came = 0;
        int found = 0;
        try {
            byte[] bytes = lane == 0 ? (byte[]) sheets[k] : null;
            short[] shorts = lane == 1 ? (short[]) sheets[k] : null;
            int[] ints = lane == 2 ? (int[]) sheets[k] : null;
            for (int i = 0; i < n; i++) {
                int c = f + 2 * i;
                int p = lane == 0 ? bytes[c] : lane == 1 ? shorts[c] : ints[c];
                int l = lane == 0 ? bytes[c + 1] : lane == 1 ? shorts[c + 1] : ints[c + 1];
                if (w.breaks(p, l) < 0) {
                    w = before;
                    return -20 - i;
                }
                came++;
            }
        } catch (NullPointerException e) {
            found = 1;
        } catch (ArrayIndexOutOfBoundsException e) {
            found = 2;
        } catch (ClassCastException e) {
            found = 3;
        }
        torn = found;
        return came;
    }

    int torn() {
        return torn;
    }

    int count(int what) {
        int broken = 0;
        int purses = 0;
        int need = 0;
        for (One one : w.people) {
            broken += one.all();
            purses += one.purse;
        }
        for (int l = 0; l < w.laws.size(); l++) {
            need += w.need(l);
        }
        int kept = (images[0] == null ? 0 : 1) + (images[1] == null ? 0 : 1);
        int cells = sheets[0] == null ? NONE : java.lang.reflect.Array.getLength(sheets[0]);
        int[] all = {Integer.bitCount(w.standing()), broken, w.seen.size(), kept, tape.length(), cells, purses, need};
        return what < 0 || what >= all.length ? BAD : all[what];
    }
}
