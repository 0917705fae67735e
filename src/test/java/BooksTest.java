/** Promises 28 to 32: gaol books, tables that fit, wild years. */
public final class BooksTest {
    private static final Due due = new Due();
    private static final int BAD = QuotaLaws.BAD, STATE = QuotaLaws.STATE, FULL = QuotaLaws.FULL, NONE = QuotaLaws.NONE;

    public static void main(String[] args) {
        see();
        forget();
        books();
        entry();
        wild();
        due.finish();
    }

    private static void see() {
        QuotaLaws x = Due.told("law 1 1 1 1;law 1 1 1 1;one 1 1 1 1;");
        due.is("see(0, 1, 0)", x.see(0, 1, 0), BAD);
        due.is("see(1, 2, 0)", x.see(1, 2, 0), BAD);
        due.is("see(2, 0, 0)", x.see(2, 0, 0), BAD);
        due.is("see(-1, 0, 0)", x.see(-1, 0, 0), BAD);
        due.is("see(0, -1, 0)", x.see(0, -1, 0), BAD);
        due.is("see(0, 0, -1)", x.see(0, 0, -1), BAD);
        due.is("see(0, 0, 21)", x.see(0, 0, 21), BAD);
        due.is("see(0, 0, 20)", x.see(0, 0, 20), 1);
        due.is("none fits", x.books(), 0);
        for (int i = 2; i <= 8; i++) {
            due.is("see " + i, x.see(1, 1, 0), i);
        }
        due.is("see 9", x.see(1, 1, 0), FULL);
        due.is("see 9, BAD first", x.see(1, 2, 0), BAD);
        due.is("count(2)", x.count(2), 8);
    }

    private static void forget() {
        QuotaLaws x = Due.told("law 1 1 1 1;one 1 1 1 1;");
        due.is("forget(1) of none", x.forget(1), BAD);
        x.see(0, 0, 1);
        x.see(1, 0, 0);
        x.see(0, 0, 0);
        due.is("books()", x.books(), 0);
        due.is("forget(-1)", x.forget(-1), BAD);
        due.is("forget(4)", x.forget(4), BAD);
        due.is("forget(3)", x.forget(3), 3);
        due.is("forget(1)", x.forget(1), 3);
        due.is("the first alone", x.books(), 1);
        due.is("entry", x.entry(0, 0, 0), 1);
        due.is("forget(0)", x.forget(0), 1);
        due.is("count(2)", x.count(2), 0);
        due.is("books()", x.books(), 2);
    }

    private static void books() {
        QuotaLaws x = Due.told("law 1 3 1 1;law 1 2 1 1;law 1 1 0 0;one 5 1 1 1 2;one 2 1 1 1;");
        // ONE 0: 4 times 3 less none above 5; ONE 1: 12 vectors below 3 with caps 3, 2, 1.
        due.is("all", x.books(), 12 * 9);
        x.breaks(0, 0);
        x.year();
        due.is("what STANDS is not asked", x.books(), 12 * 9);
        x.see(0, 0, 5);
        due.is("ONE 0 is told", x.books(), 9);
        x.see(1, 0, 4);
        due.is("ONE 1 once LAW 0, and the rest", x.books(), 3);
        x.see(1, 2, 1);
        due.is("all told", x.books(), 1);
        x.see(1, 2, 1);
        due.is("told twice", x.books(), 1);
        x.see(1, 2, 0);
        due.is("told otherwise", x.books(), 0);
        QuotaLaws y = Due.told("law 0 3 0 0;law 0 3 0 0;law 0 3 0 0;law 0 3 0 0;law 0 3 0 0;one 5 0 0 0;one 5 0 0 0;one 5 0 0 0;");
        due.is("the largest", y.books(), 222L * 222 * 222);
        for (int l = 0; l < 5; l++) {
            y.see(1, l, 3);
        }
        for (int p = 0; p < 3; p++) {
            y.see(0, p, 5);
        }
        due.is("all sums are told", y.books(), 3391);
    }

    private static void entry() {
        QuotaLaws x = Due.told("law 1 3 1 1;law 1 2 1 1;one 4 1 1 1;one 2 1 1 1 1;");
        due.is("least", x.entry(0, 0, 0), 0);
        due.is("most", x.entry(0, 0, 1), 3);
        due.is("most by CAP", x.entry(0, 1, 1), 2);
        due.is("most by TIME", x.entry(1, 0, 1), 2);
        due.is("most of what he REFUSES", x.entry(1, 1, 1), 0);
        x.see(1, 0, 4);
        due.is("least", x.entry(0, 0, 0), 2);
        due.is("least", x.entry(1, 0, 0), 1);
        x.see(0, 0, 4);
        due.is("least", x.entry(0, 1, 0), 1);
        due.is("most", x.entry(0, 1, 1), 2);
        due.is("entry(2, 0, 0)", x.entry(2, 0, 0), BAD);
        due.is("entry(0, 2, 0)", x.entry(0, 2, 0), BAD);
        due.is("entry(0, 0, 2)", x.entry(0, 0, 2), BAD);
        due.is("entry(0, 0, -1)", x.entry(0, 0, -1), BAD);
        due.is("entry(-1, 0, 0)", x.entry(-1, 0, 0), BAD);
        x.see(1, 1, 0);
        due.is("none fits", x.entry(0, 0, 0), NONE);
        due.is("none fits", x.entry(0, 0, 1), NONE);
        due.is("BAD ahead of NONE", x.entry(0, 0, 5), BAD);
    }

    private static void wild() {
        QuotaLaws x = Due.told("law 9 3 1 1;law 1 3 1 1 2;law 0 1 1 1;one 5 1 1 9;one 4 1 1 1;watch 0;");
        due.is("wild(1, 0, 0)", x.wild(1, 0, 0), BAD);
        due.is("wild(1, 61, 0)", x.wild(1, 61, 0), BAD);
        due.is("wild(1, 1, 2)", x.wild(1, 1, 2), BAD);
        due.is("wild(1, 1, -1)", x.wild(1, 1, -1), BAD);
        int[] seeds = {0, 1, -1, 7, 123456789, Integer.MIN_VALUE, Integer.MAX_VALUE};
        for (int seed : seeds) {
            for (int n = 1; n <= 60; n += 7) {
                wildAgainstBreaks(x, seed, n);
            }
        }
        due.is("by itself", x.count(1), 0);
        due.is("by itself", x.count(6), 10);
        due.is("one ONE, one LAW, harm 0", Due.told("law 9 3 0 0;one 5 0 0 0;").wild(1, 60, 0), 3);
        due.is("nobody", Due.told("law 1 1 1 1;").wild(1, 1, 0), STATE);
        due.is("no LAW", Due.told("one 1 1 1 1;").wild(1, 1, 0), STATE);
        due.is("BAD ahead of STATE", new QuotaLaws().wild(1, 0, 0), BAD);
    }

    private static void wildAgainstBreaks(QuotaLaws x, int seed, int n) {
        x.keep(0);
        int came = x.wild(seed, n, 0);
        int fallen = x.wild(seed, n, 1);
        int at = seed;
        int done = 0;
        for (int i = 0; i < n; i++) {
            at = at * 1103515245 + 12345;
            int p = (at >> 16 & 32767) % 2;
            at = at * 1103515245 + 12345;
            int l = (at >> 16 & 32767) % 3;
            done += x.breaks(p, l) >= 0 ? 1 : 0;
        }
        due.is("wild(" + seed + ", " + n + ", 0)", came, done);
        due.is("wild(" + seed + ", " + n + ", 1)", fallen, x.falls());
        x.back(0);
    }
}
