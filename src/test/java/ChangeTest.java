/** Promises 10 to 21: what is changed, breakings, years, what lapses. */
public final class ChangeTest {
    private static final Due due = new Due();
    private static final int BAD = QuotaLaws.BAD, STATE = QuotaLaws.STATE, FULL = QuotaLaws.FULL, NONE = QuotaLaws.NONE;
    private static final String TOWN = "law 3 2 5 4 1;law 1 1 7 0;one 4 3 10 98 1;one 2 0 7 5;one 5 1 0 9;watch 1;want 0 1;";

    public static void main(String[] args) {
        laws();
        people();
        revived();
        breakings();
        doneIsFull();
        years();
        lastYear();
        falls();
        most();
        due.finish();
    }

    private static void laws() {
        QuotaLaws x = Due.told(TOWN);
        due.is("quota(0, 9)", x.quota(0, 9), 3);
        due.is("quota(0, 0)", x.quota(0, 0), 9);
        due.is("quota(0, 10)", x.quota(0, 10), BAD);
        due.is("quota(0, -1)", x.quota(0, -1), BAD);
        due.is("quota(2, 1)", x.quota(2, 1), BAD);
        due.is("quota(-1, 1)", x.quota(-1, 1), BAD);
        due.is("law(0, 0)", x.law(0, 0), 0);
        due.is("law(1, 0)", x.law(1, 0), 1);

        due.is("carry(0, NONE)", x.carry(0, NONE), 1);
        due.is("carry(0, 1)", x.carry(0, 1), NONE);
        due.is("carry(0, 0)", x.carry(0, 0), BAD);
        due.is("carry(0, 2)", x.carry(0, 2), BAD);
        due.is("carry(0, -1)", x.carry(0, -1), BAD);
        due.is("carry(2, 0)", x.carry(2, 0), BAD);
        due.is("carry(NONE, NONE)", x.carry(NONE, NONE), BAD);
        due.is("law(0, 4)", x.law(0, 4), 1);
        due.is("carry(1, 0)", x.carry(1, 0), NONE);
        due.is("law(1, 6)", x.law(1, 6), 3);

        due.is("watch(0, true)", x.watch(0, true), 0);
        due.is("watch(0, true)", x.watch(0, true), 1);
        due.is("rule(5)", x.rule(5), 3);
        due.is("watch(1, false)", x.watch(1, false), 1);
        due.is("watch(1, false)", x.watch(1, false), 0);
        due.is("rule(5)", x.rule(5), 1);
        due.is("watch(2, true)", x.watch(2, true), BAD);
        due.is("watch(-1, true)", x.watch(-1, true), BAD);
    }

    private static void people() {
        QuotaLaws x = Due.told(TOWN);
        due.is("time(0, 5)", x.time(0, 5), 4);
        due.is("time(0, 0)", x.time(0, 0), 5);
        due.is("time(0, 6)", x.time(0, 6), BAD);
        due.is("time(0, -1)", x.time(0, -1), BAD);
        due.is("time(3, 1)", x.time(3, 1), BAD);
        due.is("time(-1, 1)", x.time(-1, 1), BAD);
        due.is("one(0, 0)", x.one(0, 0), 0);

        due.is("refuse(0, 1, true)", x.refuse(0, 1, true), 1);
        due.is("refuse(0, 1, false)", x.refuse(0, 1, false), 1);
        due.is("refuse(0, 0, true)", x.refuse(0, 0, true), 0);
        due.is("one(0, 4)", x.one(0, 4), 1);
        due.is("one(1, 4)", x.one(1, 4), 0);
        due.is("refuse(3, 0, true)", x.refuse(3, 0, true), BAD);
        due.is("refuse(0, 2, true)", x.refuse(0, 2, true), BAD);
        due.is("refuse(0, -1, true)", x.refuse(0, -1, true), BAD);

        due.is("want(0, 1, false)", x.want(0, 1, false), 1);
        due.is("want(0, 0, true)", x.want(0, 0, true), 0);
        due.is("one(0, 5)", x.one(0, 5), 1);
        due.is("want(-1, 0, true)", x.want(-1, 0, true), BAD);
        due.is("want(0, 2, true)", x.want(0, 2, true), BAD);

        due.is("fund(2, 99)", x.fund(2, 99), 9);
        due.is("fund(2, 0)", x.fund(2, 0), 99);
        due.is("fund(2, 100)", x.fund(2, 100), BAD);
        due.is("fund(2, -1)", x.fund(2, -1), BAD);
        due.is("fund(3, 1)", x.fund(3, 1), BAD);
        due.is("one(2, 3)", x.one(2, 3), 0);
        due.is("count(6)", x.count(6), 103);
    }

    private static void revived() {
        QuotaLaws x = Due.told(TOWN);
        due.is("revive(0) that STANDS", x.revive(0), STATE);
        due.is("revive(2)", x.revive(2), BAD);
        due.is("revive(-1)", x.revive(-1), BAD);
        due.is("year()", x.year(), 3);
        due.is("revive(1)", x.revive(1), 1);
        due.is("rule(4)", x.rule(4), 2);
        due.is("revive(1) again", x.revive(1), STATE);
        due.is("revive(0)", x.revive(0), 2);
        due.is("count(0)", x.count(0), 2);
    }

    private static void breakings() {
        QuotaLaws x = Due.told(TOWN);
        due.is("breaks(3, 0)", x.breaks(3, 0), BAD);
        due.is("breaks(0, 2)", x.breaks(0, 2), BAD);
        due.is("breaks(-1, 0)", x.breaks(-1, 0), BAD);
        due.is("breaks(0, -1)", x.breaks(0, -1), BAD);
        due.is("he REFUSES", x.breaks(0, 1), STATE);
        due.is("breaks(1, 1)", x.breaks(1, 1), 7);
        due.is("a FINE of 0", x.one(1, 3), 5);
        due.is("at the CAP", x.breaks(1, 1), STATE);
        due.is("breaks(1, 0)", x.breaks(1, 0), 5);
        due.is("not WATCHED, no FINE", x.one(1, 3), 5);
        due.is("no TIME", x.breaks(1, 0), STATE);
        due.is("rule(3)", x.rule(3), 12);
        x.watch(0, true);
        due.is("breaks(2, 0)", x.breaks(2, 0), 6);
        due.is("PURSE less by FINE", x.one(2, 3), 5);
        x.fund(2, 3);
        due.is("PURSE below FINE", x.breaks(2, 0), STATE);
        due.is("nothing came", x.broken(2, 0), 1);
        due.is("nothing paid", x.one(2, 3), 3);
        x.fund(2, 4);
        due.is("PURSE just FINE", x.breaks(2, 0), 6);
        due.is("PURSE is empty", x.one(2, 3), 0);
        due.is("broken(2, 0)", x.broken(2, 0), 2);
        due.is("DONE", x.rule(3), 24);
        due.is("count(1)", x.count(1), 4);
        x.time(2, 1);
        due.is("more BROKEN than TIME", x.one(2, 7), 0);
        due.is("more BROKEN than TIME", x.breaks(2, 1), STATE);
        x.year();
        due.is("a LAW that LAPSED", x.rule(4), 3);
        x.year();
        due.is("a LAW that LAPSED", x.breaks(0, 0), STATE);
    }

    private static void doneIsFull() {
        QuotaLaws x = Due.told("law 0 3 9 0;law 0 3 9 0;law 0 1 0 0;law 0 1 1 0;one 5 3 0 0;one 5 0 0 0;");
        x.sheet(0, 0, 10);
        for (int i = 0; i < 10; i++) {
            x.lay(0, i, i % 2 == 0 || i < 6 ? 0 : 1);
        }
        for (int year = 0; year < 166; year++) {
            due.is("read in year " + year, x.read(0, 0, 0, 5), 5);
            due.is("year " + year, x.year(), 0);
        }
        due.is("DONE", x.rule(3), 9960);
        due.is("three come", x.read(0, 0, 0, 3), 3);
        due.is("DONE", x.rule(3), 9996);
        due.is("FULL", x.breaks(0, 1), FULL);
        due.is("HARM 1 and CLUMSY 3 to 10000", x.breaks(0, 3), FULL);
        due.is("FULL", x.breaks(1, 0), FULL);
        due.is("DONE stays", x.rule(3), 9996);
        due.is("STATE ahead of FULL", x.breaks(0, 0), STATE);
        due.is("to 9999", x.breaks(0, 2), 3);
        due.is("DONE", x.rule(3), 9999);
        due.is("harm 0 at 9999", x.breaks(1, 2), 0);
        due.is("harm 1 at 9999", x.breaks(1, 3), FULL);
        x.quota(1, 9);
        x.want(1, 1, true);
        due.is("selfish does not think of DONE", x.selfish(2), 27);
        due.is("wild does", x.wild(5, 60, 0), 0);
        due.is("a FULL breaking in a sheet", x.read(0, 0, 8, 1), -20);
    }

    private static void years() {
        QuotaLaws x = Due.told("law 1 1 1 1 2;law 1 1 1 1;law 0 1 1 1 3;law 0 1 1 1;law 0 1 1 1;one 5 0 0 0;");
        x.see(0, 0, 1);
        x.breaks(0, 1);
        due.is("law 0 takes 2 and 3", x.year(), 13);
        due.is("rule(4)", x.rule(4), 18);
        due.is("rule(2)", x.rule(2), 1);
        due.is("nothing is BROKEN", x.count(1), 0);
        due.is("DONE stays", x.rule(3), 1);
        due.is("SEEN stays", x.count(2), 1);
        due.is("law 1 alone", x.year(), 2);
        due.is("none", x.year(), 0);
        due.is("rule(2)", x.rule(2), 3);
        x.revive(0);
        x.revive(3);
        due.is("through a LAPSED law, which lapses no more", x.falls(), 9);
        due.is("year() says the same", x.year(), 9);
        due.is("rule(4)", x.rule(4), 16);
    }

    // More calls than an object is promised for: within 512 calls the last year can not be met.
    private static void lastYear() {
        QuotaLaws x = new QuotaLaws();
        for (int i = 0; i < 999; i++) {
            due.is("year " + i, x.year(), 0);
        }
        due.is("YEAR 1000", x.year(), FULL);
        due.is("YEAR", x.rule(2), 999);
    }

    private static void falls() {
        QuotaLaws x = Due.told("law 1 1 1 1 1;law 0 1 1 1 0;law 1 2 1 1;one 5 0 0 0;");
        due.is("falls()", x.falls(), 7);
        due.is("nothing changed", x.rule(4), 7);
        x.breaks(0, 2);
        due.is("falls()", x.falls(), 3);
        x.breaks(0, 0);
        due.is("falls()", x.falls(), 0);
        x.quota(2, 2);
        due.is("falls()", x.falls(), 4);
        due.is("year()", x.year(), 4);
        due.is("falls() in a new year", x.falls(), 3);
    }

    private static void most() {
        QuotaLaws x = Due.told("law 1 1 1 1;law 0 1 1 1 0;law 1 2 1 1 3;law 0 1 1 1;one 5 0 0 0;");
        due.is("the first of several", x.most(0), 1);
        due.is("how many", x.most(1), 2);
        due.is("most(2)", x.most(2), BAD);
        due.is("most(-1)", x.most(-1), BAD);
        x.carry(3, 1);
        due.is("a longer chain", x.most(0), 2);
        due.is("how many", x.most(1), 4);
        x.breaks(0, 2);
        due.is("law 0 falls", x.year(), 1);
        due.is("through LAPSED laws", x.most(0), 2);
        due.is("how many STAND", x.most(1), 3);
        due.is("law 2 takes all", x.year(), 14);
        due.is("none STANDS", x.most(0), NONE);
        due.is("none STANDS", x.most(1), NONE);
        due.is("BAD ahead of NONE", x.most(5), BAD);
        x.revive(3);
        due.is("one STANDS", x.most(0), 3);
        due.is("one STANDS", x.most(1), 1);
    }
}
