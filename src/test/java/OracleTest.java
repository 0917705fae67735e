import java.util.Random;

/** Random runs of calls, by told seeds, on the program and on the oracle: every answer and all state must agree. */
public final class OracleTest {
    private static final Due due = new Due();
    private static final int RUNS = 6000;
    private static final int CALLS = 220;
    private static final int MOST_TABLES = 2000;

    private final Random random;
    private final QuotaLaws x = new QuotaLaws();
    private final Oracle o = new Oracle();

    private OracleTest(int seed) {
        random = new Random(seed);
    }

    public static void main(String[] args) {
        int runs = args.length > 0 ? Integer.parseInt(args[0]) : RUNS;
        int from = args.length > 1 ? Integer.parseInt(args[1]) : 0;
        for (int run = 0; run < runs && due.allRight(); run++) {
            new OracleTest(from + run).play();
        }
        due.finish();
    }

    private void play() {
        for (int i = 0; i < 20 && o.rule(0) * o.rule(1) == 0; i++) {
            tell();
        }
        for (int i = 0; i < CALLS && due.allRight(); i++) {
            step();
        }
        compareState();
    }

    private int up(int n) {
        return random.nextInt(n);
    }

    private int small(int most) {
        int pick = up(30);
        if (pick == 0) {
            return -1;
        }
        if (pick == 1) {
            return most + 1;
        }
        return pick == 2 ? random.nextInt() : up(most + 1);
    }

    private void feedBoth(String text) {
        for (int i = 0; i < text.length(); i++) {
            due.is("feed", x.feed(text.charAt(i)), o.feed(text.charAt(i)));
        }
    }

    private void tell() {
        StringBuilder text = new StringBuilder();
        int laws = up(20) == 0 ? up(2) : 2 + up(4);
        int people = up(20) == 0 ? 0 : 1 + up(3);
        for (int l = 0; l < laws; l++) {
            text.append("law ").append(up(3) == 0 ? up(10) : up(4)).append(' ').append(1 + up(3));
            text.append(' ').append(up(10)).append(' ').append(up(10));
            if (up(2) == 0) {
                int m = up(Math.max(laws, 1));
                text.append(m == l && up(20) != 0 ? "" : " " + m);
            }
            text.append(';');
        }
        for (int p = 0; p < people; p++) {
            text.append("one ").append(up(6)).append(' ').append(up(4)).append(' ').append(up(11)).append(' ').append(up(100));
            for (int l = 0; l < laws; l++) {
                text.append(up(4) == 0 ? " " + l : "");
            }
            text.append(';');
        }
        for (int i = up(4); i > 0; i--) {
            text.append("want ").append(up(Math.max(people, 1))).append(' ').append(up(Math.max(laws, 1))).append(';');
        }
        if (up(2) == 0) {
            text.append("watch ").append(up(Math.max(laws, 1))).append(';');
        }
        feedBoth(up(4) == 0 ? spoiled(text) : text.toString());
        due.is("text()", x.text(), o.text());
        due.is("fault()", x.fault(), o.fault());
    }

    private String spoiled(StringBuilder text) {
        String odd = "law one want watch ;0123456789 \t?AZ";
        for (int i = 1 + up(3); i > 0 && text.length() > 0; i--) {
            int at = up(text.length());
            char c = odd.charAt(up(odd.length()));
            switch (up(3)) {
                case 0: text.setCharAt(at, c); break;
                case 1: text.insert(at, c); break;
                default: text.deleteCharAt(at);
            }
        }
        return text.toString();
    }

    private void step() {
        switch (up(44)) {
            case 0: case 1: change(); change(); return;
            case 2: case 3: case 4: case 5: case 6: case 7: case 8: { int p = small(2), l = small(4); due.is("breaks", x.breaks(p, l), o.breaks(p, l)); return; }
            case 9: due.is("year", x.year(), o.year()); return;
            case 10: { int l = small(4); due.is("revive", x.revive(l), o.revive(l)); return; }
            case 11: { int w = small(1); due.is("most", x.most(w), o.most(w)); return; }
            case 12: case 13: { int w = up(3) == 0 ? 0 : 9 + up(17); due.is("rota", x.rota(w), o.rota(w)); return; }
            case 14: { int p = small(2); due.is("more", x.more(p), o.more(p)); return; }
            case 15: { int w = small(1); due.is("together", x.together(w), o.together(w)); return; }
            case 16: { int l = small(4), w = small(1); due.is("kill", x.kill(l, w), o.kill(l, w)); return; }
            case 17: { int w = small(2); due.is("selfish", x.selfish(w), o.selfish(w)); return; }
            case 18: { int l = small(4), w = small(1); due.is("luck", x.luck(l, w), o.luck(l, w)); return; }
            case 19: case 20: case 21: { int w = small(1), a = small(3), n = up(4) == 0 ? small(20) : small(4); due.is("see", x.see(w, a, n), o.see(w, a, n)); return; }
            case 22: { int n = small(8); due.is("forget", x.forget(n), o.forget(n)); return; }
            case 23: bookCalls(); return;
            case 24: { int s = random.nextInt(), n = small(60), w = small(1); due.is("wild", x.wild(s, n, w), o.wild(s, n, w)); return; }
            case 25: { int k = small(1); due.is("keep", x.keep(k), o.keep(k)); return; }
            case 26: { int k = small(1); due.is("back", x.back(k), o.back(k)); return; }
            case 27: { int k = small(3), lane = small(2), n = up(2) == 0 ? small(40) : up(9); due.is("sheet", x.sheet(k, lane, n), o.sheet(k, lane, n)); return; }
            case 28: case 29: case 30: case 31: { int k = small(3), i = small(9), v = up(4) == 0 ? small(300) : up(2); due.is("lay", x.lay(k, i, v), o.lay(k, i, v)); return; }
            case 32: case 33: case 34: case 35: { int k = small(3), lane = small(2), f = up(3) == 0 ? small(40) : up(4), n = up(2) == 0 ? small(20) : up(3); due.is("read", x.read(k, lane, f, n), o.read(k, lane, f, n)); due.is("torn", x.torn(), o.torn()); return; }
            case 36: if (up(20) == 0) { tell(); } return;
            case 37: { int n = small(3); due.is("end", x.end(n), o.end(n)); return; }
            case 38: { int c = small(127); due.is("feed", x.feed(c), o.feed(c)); x.end(0); o.end(0); return; }
            case 39: case 40: compareState(); return;
            default: ask(); return;
        }
    }

    /** With few sightings, so that tables fit; the oracle goes through all tables, so only where these are not too many. */
    private void bookCalls() {
        int few = Math.min(up(4), o.count(2));
        due.is("forget", x.forget(few), o.forget(few));
        if (x.books() > MOST_TABLES) {
            return;
        }
        due.is("books", x.books(), o.books());
        int p = small(2), l = small(4), w = small(1);
        due.is("entry", x.entry(p, l, w), o.entry(p, l, w));
    }

    private void change() {
        int p = small(2), l = small(4);
        boolean is = up(2) == 0;
        switch (up(7)) {
            case 0: { int v = small(9); due.is("quota", x.quota(l, v), o.quota(l, v)); return; }
            case 1: { int m = up(3) == 0 ? -4 : small(4); due.is("carry", x.carry(l, m), o.carry(l, m)); return; }
            case 2: due.is("watch", x.watch(l, is), o.watch(l, is)); return;
            case 3: { int v = small(5); due.is("time", x.time(p, v), o.time(p, v)); return; }
            case 4: due.is("refuse", x.refuse(p, l, is), o.refuse(p, l, is)); return;
            case 5: due.is("want", x.want(p, l, is), o.want(p, l, is)); return;
            default: { int v = small(99); due.is("fund", x.fund(p, v), o.fund(p, v)); return; }
        }
    }

    private void ask() {
        int p = small(2), l = small(4), w = small(7);
        due.is("rule", x.rule(w), o.rule(w));
        due.is("law", x.law(l, w), o.law(l, w));
        due.is("one", x.one(p, w), o.one(p, w));
        due.is("broken", x.broken(p, l), o.broken(p, l));
        due.is("count", x.count(w), o.count(w));
    }

    private void compareState() {
        for (int w = -1; w < 9; w++) {
            due.is("rule", x.rule(w), o.rule(w));
            due.is("count", x.count(w), o.count(w));
            for (int i = 0; i < 5; i++) {
                due.is("law", x.law(i, w), o.law(i, w));
                due.is("one", x.one(i, w), o.one(i, w));
                due.is("broken", x.broken(w, i), o.broken(w, i));
            }
        }
        due.is("falls", x.falls(), o.falls());
        due.is("torn", x.torn(), o.torn());
        due.is("fault", x.fault(), o.fault());
    }
}
