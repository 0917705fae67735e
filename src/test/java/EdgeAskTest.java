/** The sentences of promises 22 to 39 that name a bound, an empty or a full case, a wrap-around, a refused call: a method for each. */
public final class EdgeAskTest {
    private static final Edge edge = new Edge();
    private static final int BAD = QuotaLaws.BAD, STATE = QuotaLaws.STATE, FULL = QuotaLaws.FULL, NONE = QuotaLaws.NONE;
    private static final int MIN = Integer.MIN_VALUE, MAX = Integer.MAX_VALUE;
    private static final String LAW = "law 1 1 1 1;", ONE = "one 1 1 1 1;";
    private static final String FIVE = LAW + LAW + LAW + LAW + LAW, THREE = ONE + ONE + ONE;
    private static final String CAPS = "law 9 3 0 0;law 9 3 0 0;law 9 3 0 0;law 9 3 0 0;law 9 3 0 0;one 5 0 0 0;one 5 0 0 0;one 5 0 0 0;";

    public static void main(String[] args) {
        rota();
        more();
        together();
        kill();
        selfish();
        luck();
        see();
        forget();
        books();
        entry();
        wildBounds();
        wildSeeds();
        wildFalls();
        keep();
        back();
        sheet();
        lay();
        readBounds();
        readCells();
        readRefused();
        readMachine();
        torn();
        count();
        edge.finish(22, 39);
    }

    private static void rota() {
        edge.promise(22, "BAD (also no such LAW, ONE); NONE: there is none.");
        QuotaLaws x = Due.told(FIVE + THREE);
        edge.is("three times for five LAWS", x.rota(0), NONE);
        edge.is("none for the first", x.rota(10), NONE);
        edge.is("none for the last", x.rota(24), NONE);
        for (int what : new int[] {-1, 1, 9, 25, 26, MIN, MAX, MIN + 10}) {
            edge.is("rota(" + what + ")", x.rota(what), BAD);
        }
        QuotaLaws y = Due.told(LAW + LAW + ONE + ONE);
        int[] due = {0, 1, BAD, 1, 0, BAD, BAD, BAD};
        for (int i = 0; i < 8; i++) {
            edge.is("rota(" + (10 + i) + ") of two and two", y.rota(10 + i), due[i]);
        }
        edge.is("LAWS, but nobody", Due.told(LAW).rota(0), NONE);
        edge.is("nobody, and no NEED", Due.told("law 0 1 1 1;").rota(0), 0);
        edge.is("PEOPLE, but no LAW", Due.told(ONE).rota(0), 0);
        edge.promise(22, "The least harm of a ROTA (what 0); 10 and 3 times the LAW and the ONE: how often he breaks it in the first such.");
        QuotaLaws z = Due.told("law 3 3 9 0;law 3 3 9 0;law 3 3 9 0;law 3 3 9 0;law 3 3 9 0;one 5 3 0 0;one 5 3 0 0;one 5 3 0 0;");
        edge.is("all that can be", z.rota(0), 15 * 12);
        int[] full = {0, 0, 3, 0, 1, 2, 0, 3, 0, 2, 1, 0, 3, 0, 0};
        for (int i = 0; i < 15; i++) {
            edge.is("rota(" + (10 + i) + ")", z.rota(10 + i), full[i]);
        }
        z.quota(4, 4);
        edge.is("one more than can be", z.rota(0), NONE);
        // The least harm goes ahead of the fewest breakings by ONE 0.
        QuotaLaws w = Due.told("law 1 1 0 0;law 1 1 0 0;one 2 0 0 0;one 2 1 0 0;");
        edge.is("harm 0", w.rota(0), 0);
        edge.is("by ONE 0", w.rota(10), 1);
        edge.is("not by ONE 1", w.rota(11), 0);
        edge.is("five LAWS, no NEED", Due.told(CAPS.replace("law 9", "law 0")).rota(0), 0);
        rotaOfThree();
    }

    /** What one LAW takes of the TIME of each is gone for the next; ONE 2 has bounds of his own; no LAW is broken above NEED. */
    private static void rotaOfThree() {
        QuotaLaws x = Due.told("law 2 2 0 0;law 2 2 0 0;one 3 0 0 0;one 5 1 0 0 0;");
        int[] first = {2, 0, BAD, 1, 1, BAD};
        QuotaLaws y = Due.told("law 2 2 0 0;law 2 2 0 0;one 5 0 0 0 0 1;one 3 0 0 0;one 5 1 0 0 0;");
        int[] second = {0, 2, 0, 0, 1, 1};
        for (int i = 0; i < 6; i++) {
            edge.is("ONE 0 has TIME for 3: rota(" + (10 + i) + ")", x.rota(10 + i), first[i]);
            edge.is("ONE 1 has TIME for 3: rota(" + (10 + i) + ")", y.rota(10 + i), second[i]);
        }
        edge.is("harm 1", x.rota(0), 1);
        edge.is("harm 1", y.rota(0), 1);
        QuotaLaws z = Due.told("law 1 1 0 0;law 2 2 0 0;law 1 1 0 0;one 0 0 0 0;one 1 3 0 0;one 5 0 0 0 2;");
        int[] third = {0, 0, 1, 0, 0, 2, 0, 1, 0};
        for (int i = 0; i < 9; i++) {
            edge.is("ONE 2 REFUSES LAW 2: rota(" + (10 + i) + ")", z.rota(10 + i), third[i]);
        }
        QuotaLaws w = Due.told("law 1 2 0 0;law 0 2 0 0;one 5 0 0 0;one 5 0 0 0;one 5 3 0 0;");
        edge.is("just NEED times, by those of least harm", w.rota(0), 0);
        edge.is("not by ONE 0", w.rota(10), 0);
        edge.is("by ONE 1", w.rota(11), 1);
        edge.is("not by ONE 2", w.rota(12), 0);
    }

    private static void more() {
        edge.promise(23, "The least that TIME of a ONE (it may be above 5 then) must be more (0 to 9) so that there is a ROTA.");
        QuotaLaws x = Due.told("law 3 3 0 0;law 3 3 0 0;law 3 3 0 0;law 0 3 0 0;one 5 0 0 0;one 0 0 0 0;");
        edge.is("4 more: 9 in all", x.more(0), 4);
        edge.is("4 of another", x.more(1), 4);
        x.time(0, 0);
        edge.is("9 more", x.more(0), 9);
        edge.is("9 of another", x.more(1), 9);
        x.quota(3, 1);
        edge.is("10 more", x.more(0), NONE);
        x.time(1, 1);
        edge.is("9 more, with 1 of another", x.more(0), 9);
        for (int l = 0; l < 4; l++) {
            x.quota(l, 0);
        }
        edge.is("0 more", x.more(0), 0);
        x.quota(0, 1);
        x.refuse(1, 0, true);
        edge.is("1 more", x.more(0), 1);
        edge.is("he REFUSES", x.more(1), NONE);
        edge.is("TIME is as it was", x.one(0, 0), 0);
        edge.promise(23, "BAD; NONE: by none of these.");
        for (int p : new int[] {-1, 2, MIN, MAX}) {
            edge.is("more(" + p + ")", x.more(p), BAD);
        }
        edge.is("above CAP", Due.told("law 4 3 0 0;one 5 0 0 0;").more(0), NONE);
        QuotaLaws y = Due.told("law 3 3 0 0;law 3 3 0 0;one 5 0 0 0;");
        for (int i = 0; i < 5; i++) {
            y.breaks(0, i / 3);
        }
        edge.is("one more than he BROKE", y.more(0), 1);
        y.time(0, 0);
        edge.is("all that he BROKE and one", y.more(0), 6);
        edge.is("no LAW", Due.told(ONE).more(0), 0);
    }

    private static void together() {
        edge.promise(24, "The most LAWS that STAND that could all be broken NEED times more (others being left): how many (what 0), the least set of so many (1; bits). BAD.");
        QuotaLaws x = Due.told(FIVE + "one 5 0 0 0;");
        edge.is("all", x.together(0), 5);
        edge.is("all", x.together(1), 31);
        x.time(0, 4);
        edge.is("all but one", x.together(0), 4);
        edge.is("the least set", x.together(1), 15);
        x.time(0, 0);
        edge.is("none", x.together(0), 0);
        edge.is("the empty set", x.together(1), 0);
        x.quota(4, 0);
        edge.is("no NEED", x.together(0), 1);
        edge.is("no NEED", x.together(1), 16);
        x.time(0, 1);
        edge.is("with the first", x.together(1), 17);
        x.quota(0, 2);
        edge.is("CAP 1, QUOTA 2: with the second", x.together(1), 18);
        x.year();
        edge.is("LAW 4 alone STANDS", x.together(0), 1);
        edge.is("LAW 4 alone STANDS", x.together(1), 16);
        for (int what : new int[] {-1, 2, MIN, MAX}) {
            edge.is("together(" + what + ")", x.together(what), BAD);
        }
        x.quota(4, 1);
        x.year();
        edge.is("none STANDS", x.together(0), 0);
        edge.is("none STANDS", x.together(1), 0);
        QuotaLaws y = Due.told("law 1 1 0 9;law 3 3 0 0;law 2 2 0 0;one 3 0 0 0;watch 0;");
        edge.is("0 and 2, though 1 fills the TIME too; no PURSE is asked", y.together(1), 5);
        edge.is("nobody", Due.told(FIVE).together(0), 0);
    }

    private static void kill() {
        edge.promise(25, "The fewest ONES to be kept from breaking a LAW so that, all others breaking it (alone) as often as they CAN, NEED is not met (what 0), the least set of so many (1; bits).");
        QuotaLaws x = Due.told("law 9 3 0 9;law 1 3 0 0;one 5 0 0 0;one 5 0 0 0;one 5 0 0 0;watch 0;");
        edge.is("9 of 9", x.kill(0, 0), 1);
        edge.is("the first", x.kill(0, 1), 1);
        x.quota(0, 7);
        edge.is("9 of 7", x.kill(0, 0), 1);
        x.quota(0, 6);
        edge.is("9 of 6: two", x.kill(0, 0), 2);
        edge.is("the first two", x.kill(0, 1), 3);
        x.quota(0, 3);
        edge.is("9 of 3: all", x.kill(0, 0), 3);
        edge.is("all", x.kill(0, 1), 7);
        x.quota(0, 4);
        edge.is("9 of 4: two", x.kill(0, 0), 2);
        x.time(2, 0);
        x.time(1, 1);
        edge.is("3, 1, 0 of 4", x.kill(0, 1), 1);
        x.time(1, 0);
        edge.is("3 of 4: nobody", x.kill(0, 0), 0);
        edge.is("3 of 4: the empty set", x.kill(0, 1), 0);
        x.quota(0, 3);
        edge.is("3 of 3", x.kill(0, 0), 1);
        x.breaks(0, 1);
        x.breaks(0, 1);
        edge.is("TIME for 3 yet", x.kill(0, 1), 1);
        x.breaks(0, 1);
        edge.is("TIME for 2", x.kill(0, 0), 0);
        QuotaLaws y = Due.told("law 3 2 0 0;one 1 0 0 0;one 1 0 0 0;one 5 0 0 0;");
        edge.is("1, 1, 2 of 3: one", y.kill(0, 0), 1);
        edge.is("the last, for without another 3 are left", y.kill(0, 1), 4);
        edge.promise(25, "BAD; STATE: it has LAPSED; NONE: by none.");
        edge.is("NEED 0", x.kill(1, 0), NONE);
        edge.is("NEED 0", x.kill(1, 1), NONE);
        x.year();
        edge.is("LAPSED", x.kill(0, 0), STATE);
        edge.is("LAPSED", x.kill(0, 1), STATE);
        for (int w : new int[] {-1, 2, MIN, MAX}) {
            edge.is("LAW " + w, x.kill(w, 0), BAD);
            edge.is("what " + w, x.kill(0, w), BAD);
        }
        edge.is("nobody", Due.told(LAW).kill(0, 0), 0);
        edge.is("nobody, NEED 0", Due.told("law 0 1 1 1;").kill(0, 0), NONE);
    }

    private static void selfish() {
        edge.promise(26, "EACH FOR HIMSELF, by itself, from now on: LAWS that STAND of which NEED is 0 then (what 0; bits), breakings (1), harm of these (2). BAD.");
        QuotaLaws x = Due.told("law 3 3 9 9;law 3 3 9 9;law 3 3 9 9;law 3 3 9 9;law 3 3 9 9;one 5 3 0 0;one 5 3 0 0;one 5 3 0 0;");
        edge.is("nobody WANTS", x.selfish(0), 0);
        edge.is("nobody WANTS", x.selfish(1), 0);
        edge.is("nobody WANTS", x.selfish(2), 0);
        for (int i = 0; i < 15; i++) {
            x.want(i / 5, i % 5, true);
        }
        edge.is("all the TIME there is", x.selfish(0), 31);
        edge.is("all the TIME there is", x.selfish(1), 15);
        edge.is("all the TIME there is", x.selfish(2), 180);
        x.quota(4, 4);
        edge.is("one is not met", x.selfish(0), 15);
        edge.is("by itself", x.count(1), 0);
        edge.is("by itself", x.rule(3), 0);
        edge.is("by itself", x.count(7), 16);
        x.breaks(0, 0);
        edge.is("from now on", x.selfish(1), 14);
        edge.is("the harm of these alone", x.selfish(2), 168);
        for (int what : new int[] {-1, 3, MIN, MAX}) {
            edge.is("selfish(" + what + ")", x.selfish(what), BAD);
        }
        x.year();
        edge.is("none STANDS", x.selfish(0), 0);
        x.revive(0);
        x.quota(0, 0);
        edge.is("one STANDS, NEED 0", x.selfish(0), 1);
        edge.is("one STANDS, NEED 0", x.selfish(1), 0);
    }

    private static void luck() {
        edge.promise(27, "Each ONE tries to break a LAW as often as he CAN (it alone), each time by NERVE out of ten, by itself: that NEED is met: 0, 1. BAD.");
        QuotaLaws x = Due.told("law 9 3 0 9;law 0 3 0 0;one 5 0 9 0;one 5 0 9 0;one 5 0 9 0;watch 0;");
        edge.is("nine of nine", x.luck(0, 0), 387420489L);
        edge.is("nine of nine", x.luck(0, 1), 1000000000L);
        x.quota(0, 8);
        edge.is("eight of nine: twice as likely", x.luck(0, 0), 387420489L);
        edge.is("eight of nine: twice as likely", x.luck(0, 1), 500000000L);
        x.quota(0, 1);
        edge.is("one of nine", x.luck(0, 0), 999999999L);
        x.quota(0, 0);
        edge.is("none of nine", x.luck(0, 0), 1);
        edge.is("none of nine", x.luck(0, 1), 1);
        x.quota(0, 9);
        x.time(2, 2);
        edge.is("nine of eight", x.luck(0, 0), 0);
        edge.is("nine of eight", x.luck(0, 1), 1);
        x.time(2, 5);
        x.breaks(1, 1);
        x.breaks(1, 1);
        edge.is("TIME for three yet", x.luck(0, 1), 1000000000L);
        x.breaks(1, 1);
        edge.is("TIME for two", x.luck(0, 0), 0);
        for (int w : new int[] {-1, 2, MIN, MAX}) {
            edge.is("LAW " + w, x.luck(w, 0), BAD);
            edge.is("what " + w, x.luck(0, w), BAD);
        }
        x.year();
        edge.is("LAPSED: NEED is 0", x.luck(0, 0), 1);
        QuotaLaws y = Due.told("law 1 3 0 0;one 1 0 0 0;one 0 0 10 0;");
        edge.is("NERVE 0", y.luck(0, 0), 0);
        edge.is("NERVE 0", y.luck(0, 1), 1);
        y.time(1, 1);
        edge.is("NERVE 10", y.luck(0, 0), 1);
        edge.is("NERVE 10", y.luck(0, 1), 1);
        edge.is("nobody", Due.told(LAW).luck(0, 0), 0);
        edge.is("nobody", Due.told(LAW).luck(0, 1), 1);
        edge.is("nobody, NEED 0", Due.told("law 0 1 1 1;").luck(0, 0), 1);
    }

    private static void see() {
        edge.promise(28, "SEEN: of a ONE (what 0) or of a LAW (1), so often in all (0 to 20): how many are. BAD; FULL.");
        QuotaLaws x = Due.told(FIVE + THREE);
        edge.is("0 of the last ONE", x.see(0, 2, 0), 1);
        edge.is("20 of the last LAW", x.see(1, 4, 20), 2);
        edge.is("ONE 3", x.see(0, 3, 0), BAD);
        edge.is("LAW 5", x.see(1, 5, 0), BAD);
        for (int w : new int[] {-1, 21, MIN, MAX}) {
            edge.is("so often: " + w, x.see(0, 0, w), BAD);
            edge.is("ONE " + w, x.see(0, w, 0), BAD);
            edge.is("LAW " + w, x.see(1, w, 0), BAD);
            edge.is("what " + w, x.see(w, 0, 0), BAD);
        }
        edge.is("what 2", x.see(2, 0, 0), BAD);
        edge.is("how many are", x.count(2), 2);
        for (int i = 3; i <= 8; i++) {
            edge.is("see " + i, x.see(0, 0, 0), i);
        }
        edge.is("see 9", x.see(0, 0, 0), FULL);
        edge.is("how many are", x.count(2), 8);
    }

    private static void forget() {
        edge.promise(29, "SEEN are the first n alone: how many there were. BAD.");
        QuotaLaws x = Due.told("law 0 3 0 0;one 5 0 0 0;");
        edge.is("0 of none", x.forget(0), 0);
        edge.is("1 of none", x.forget(1), BAD);
        for (int i = 0; i < 8; i++) {
            x.see(i % 2, 0, i == 7 ? 1 : 2);
        }
        edge.is("9 of 8", x.forget(9), BAD);
        edge.is("-1 of 8", x.forget(-1), BAD);
        edge.is("MIN", x.forget(MIN), BAD);
        edge.is("MAX", x.forget(MAX), BAD);
        edge.is("8 of 8", x.forget(8), 8);
        edge.is("the eighth is asked", x.books(), 0);
        edge.is("7 of 8", x.forget(7), 8);
        edge.is("it is no more", x.books(), 1);
        edge.is("8 of 7", x.forget(8), BAD);
        edge.is("0 of 7", x.forget(0), 7);
        edge.is("nothing is asked", x.books(), 4);
        edge.is("none is SEEN", x.count(2), 0);
        edge.is("what comes then is the first", x.see(0, 0, 3), 1);
    }

    private static void books() {
        edge.promise(30, "TABLES that FIT: how many.");
        edge.is("nothing told: the empty one", new QuotaLaws().books(), 1);
        edge.is("nobody", Due.told(FIVE).books(), 1);
        edge.is("no LAW", Due.told(THREE).books(), 1);
        QuotaLaws x = Due.told(CAPS);
        edge.is("all", x.books(), 222L * 222 * 222);
        x.see(1, 0, 9);
        edge.is("9 by all: 3 by each, and 15 ways for 2 at most of four LAWS", x.books(), 15L * 15 * 15);
        x.forget(0);
        x.see(1, 0, 10);
        edge.is("10 by all", x.books(), 0);
        x.forget(0);
        x.see(0, 0, 5);
        edge.is("5 by ONE 0", x.books(), 101L * 222 * 222);
        x.forget(0);
        x.see(0, 0, 6);
        edge.is("6 by ONE 0", x.books(), 0);
        x.forget(0);
        x.see(0, 0, 0);
        x.see(0, 1, 0);
        edge.is("0 by two", x.books(), 222);
        x.see(1, 4, 0);
        edge.is("and LAW 4 not at all", x.books(), 106);
        QuotaLaws bound = Due.told("law 0 1 0 0;law 0 3 0 0;law 0 2 0 0;one 5 0 0 0 1;one 0 0 0 0;one 5 0 0 0 2;");
        bound.see(1, 1, 3);
        bound.see(1, 2, 2);
        edge.is("LAW 1 by ONE 2 alone, LAW 2 by ONE 0 alone, LAW 0 by each or not", bound.books(), 4);
        bound.see(1, 2, 3);
        edge.is("above his CAP", bound.books(), 0);
        bound.forget(0);
        bound.see(1, 1, 4);
        edge.is("above his CAP", bound.books(), 0);
        QuotaLaws nobody = Due.told(FIVE);
        nobody.see(1, 4, 0);
        edge.is("nobody broke it, and so it is SEEN", nobody.books(), 1);
        nobody.see(1, 3, 1);
        edge.is("nobody broke it, but it is SEEN", nobody.books(), 0);
        QuotaLaws lawless = Due.told(THREE);
        lawless.see(0, 2, 0);
        edge.is("no LAW to break", lawless.books(), 1);
        lawless.see(0, 2, 1);
        edge.is("no LAW to break, but SEEN", lawless.books(), 0);
    }

    private static void entry() {
        edge.promise(31, "In TABLES that FIT, how often a ONE broke a LAW: the least (what 0), the most (1). BAD; NONE: none FITS.");
        QuotaLaws x = Due.told(CAPS);
        edge.is("the least", x.entry(2, 4, 0), 0);
        edge.is("the most is CAP", x.entry(2, 4, 1), 3);
        x.time(2, 2);
        edge.is("the most is TIME", x.entry(2, 4, 1), 2);
        x.time(2, 0);
        edge.is("the most is 0", x.entry(2, 4, 1), 0);
        x.see(1, 4, 6);
        edge.is("3 by each of two", x.entry(0, 4, 0), 3);
        edge.is("3 by each of two", x.entry(0, 4, 1), 3);
        x.refuse(1, 4, true);
        edge.is("none FITS", x.entry(0, 4, 0), NONE);
        edge.is("none FITS", x.entry(0, 4, 1), NONE);
        for (int w : new int[] {-1, 5, MIN, MAX}) {
            edge.is("ONE " + w, x.entry(w, 0, 0), BAD);
            edge.is("LAW " + w, x.entry(0, w, 0), BAD);
            edge.is("what " + w, x.entry(0, 0, w), BAD);
        }
        edge.is("ONE 3", x.entry(3, 0, 0), BAD);
        edge.is("what 2", x.entry(0, 0, 2), BAD);
        x.forget(0);
        x.see(0, 0, 5);
        edge.is("no more than 3 of one", x.entry(0, 0, 1), 3);
        x.see(1, 1, 0);
        x.see(1, 2, 0);
        x.see(1, 3, 0);
        edge.is("LAWS 0 and 4 alone", x.entry(0, 0, 0), 2);
        edge.is("LAWS 0 and 4 alone", x.entry(0, 4, 1), 3);
        entryOfEach();
    }

    private static void entryOfEach() {
        QuotaLaws x = Due.told(CAPS);
        x.see(1, 4, 1);
        for (int p = 0; p < 3; p++) {
            edge.is("1 by all: the least of " + p, x.entry(p, 4, 0), 0);
            edge.is("1 by all: the most of " + p, x.entry(p, 4, 1), 1);
            edge.is("another LAW", x.entry(p, 3, 1), 3);
        }
        x.forget(0);
        x.see(1, 4, 8);
        for (int p = 0; p < 3; p++) {
            edge.is("8 by all: the least of " + p, x.entry(p, 4, 0), 2);
            edge.is("8 by all: the most of " + p, x.entry(p, 4, 1), 3);
            edge.is("no more than 3 is left to him", x.entry(p, 3, 1), 3);
            x.see(0, p, 4);
            edge.is("2 at most is left to him", x.entry(p, 3, 1), 2);
            x.forget(1);
        }
    }

    private static void wildBounds() {
        edge.promise(32, "By itself, n tries (1 to 60) by a seed");
        QuotaLaws x = Due.told("law 9 3 1 9;law 9 3 0 0;one 5 0 0 9;one 5 1 0 9;watch 0;");
        edge.is("0 tries", x.wild(1, 0, 0), BAD);
        edge.is("1 try", x.wild(1, 1, 0), 1);
        edge.is("60 tries", x.wild(1, 60, 0), wildByHand(x, 1, 60));
        edge.is("61 tries", x.wild(1, 61, 0), BAD);
        edge.is("-1 tries", x.wild(1, -1, 0), BAD);
        edge.is("by itself", x.count(1), 0);
        edge.is("by itself", x.count(6), 18);
        edge.is("by itself", x.rule(3), 0);
        edge.promise(32, "BAD; STATE: there is nobody, no LAW.");
        edge.is("what -1", x.wild(1, 1, -1), BAD);
        edge.is("what 2", x.wild(1, 1, 2), BAD);
        edge.is("nobody", Due.told(FIVE).wild(1, 1, 0), STATE);
        edge.is("nobody", Due.told(FIVE).wild(1, 1, 1), STATE);
        edge.is("no LAW", Due.told(THREE).wild(1, 1, 0), STATE);
        edge.is("neither", new QuotaLaws().wild(1, 60, 1), STATE);
        edge.is("one of each", Due.told(LAW + ONE).wild(1, 1, 0), 1);
    }

    private static void wildSeeds() {
        edge.promise(32, "the seed becomes seed times 1103515245 and 12345; bits 16 to 30 of it modulo PEOPLE, then (once more) modulo LAWS: a BREAKING, if breaks() would do it");
        int[] seeds = {0, 1, -1, 2, 12345, 65535, 65536, -65536, 1 << 30, MIN, MIN + 1, MAX, MAX - 1, 1103515245};
        for (int seed : seeds) {
            for (int p = 0; p < 3; p++) {
                for (int l = 0; l < 5; l++) {
                    QuotaLaws x = Due.told("law1 1 0 0;law1 1 0 0;law1 1 0 0;law1 1 0 0;law1 1 0 0;one 0 0 0 0;one 0 0 0 0;one 0 0 0 0;");
                    x.time(p, 1);
                    for (int other = 0; other < 5; other++) {
                        x.refuse(p, other, other != l);
                    }
                    long first = wrapped(seed);
                    boolean drawn = bits(first) % 3 == p && bits(wrapped(first)) % 5 == l;
                    edge.is("seed " + seed + " for ONE " + p + ", LAW " + l, x.wild(seed, 1, 0), drawn ? 1 : 0);
                }
            }
        }
    }

    /** In long, with the wrap-around of int put by hand. */
    private static long wrapped(long seed) {
        long next = Math.floorMod(seed * 1103515245L + 12345L, 1L << 32);
        return next >= 1L << 31 ? next - (1L << 32) : next;
    }

    private static long bits(long seed) {
        return Math.floorMod(seed, 1L << 31) / 65536;
    }

    private static int wildByHand(QuotaLaws x, int seed, int n) {
        x.keep(0);
        long at = seed;
        int sum = 0;
        for (int i = 0; i < n; i++) {
            at = wrapped(at);
            int p = (int) (bits(at) % x.rule(1));
            at = wrapped(at);
            int l = (int) (bits(at) % x.rule(0));
            sum += x.breaks(p, l) >= 0 ? 1 : 0;
        }
        x.back(0);
        return sum;
    }

    private static void wildFalls() {
        edge.promise(32, "how many were (what 0), what falls() would be then (1; bits).");
        QuotaLaws x = Due.told("law 1 3 0 9 1;law 0 3 0 0;law 1 1 0 0;one 5 0 0 8;watch 0;");
        edge.is("all tries: PURSE 8 for a FINE of 9", x.wild(3, 60, 1), 3);
        edge.is("LAW 1 by CAP, LAW 2 by CAP", x.wild(3, 60, 0), 4);
        x.fund(0, 9);
        edge.is("PURSE for one", x.wild(3, 60, 1), 0);
        edge.is("five by TIME", x.wild(3, 60, 0), 5);
        x.refuse(0, 2, true);
        edge.is("one of LAW 0, three of LAW 1", x.wild(3, 60, 0), 4);
        edge.is("LAW 2", x.wild(3, 60, 1), 4);
        edge.is("falls() is as it was", x.falls(), 7);
    }

    private static void keep() {
        edge.promise(33, "IMAGE k (0, 1) is LAWS, PEOPLE, what is BROKEN, YEAR, DONE, what was SEEN: whether there was one (1, 0). BAD.");
        QuotaLaws x = new QuotaLaws();
        edge.is("keep(-1)", x.keep(-1), BAD);
        edge.is("keep(2)", x.keep(2), BAD);
        edge.is("no IMAGE", x.count(3), 0);
        edge.is("nothing told", x.keep(0), 0);
        edge.is("one IMAGE", x.count(3), 1);
        edge.is("IMAGE 1", x.keep(1), 0);
        edge.is("two IMAGES", x.count(3), 2);
        edge.is("IMAGE 0 again", x.keep(0), 1);
        edge.is("IMAGE 1 again", x.keep(1), 1);
        edge.is("two IMAGES", x.count(3), 2);
        edge.is("back to nothing", x.back(0), 0);
        edge.is("MIN", x.keep(MIN), BAD);
        edge.is("MAX", x.keep(MAX), BAD);
    }

    private static void back() {
        edge.promise(34, "All is as IMAGE k: YEAR. BAD; STATE: there is none.");
        QuotaLaws x = Due.told("law 1 3 4 5 1;law 2 2 2 2;one 5 1 2 9;one 4 2 1 8;want 0 0;watch 0;");
        for (int k = 0; k < 2; k++) {
            edge.is("none yet", x.back(k), STATE);
        }
        for (int k : new int[] {-1, 2, MIN, MAX}) {
            edge.is("back(" + k + ")", x.back(k), BAD);
        }
        x.breaks(0, 0);
        x.see(1, 1, 3);
        x.keep(1);
        edge.is("IMAGE 0 is none yet", x.back(0), STATE);
        x.year();
        x.year();
        x.revive(0);
        x.forget(0);
        x.see(0, 1, 20);
        x.see(0, 0, 20);
        x.keep(0);
        x.fund(0, 50);
        edge.is("YEAR 0", x.back(1), 0);
        edge.is("PURSE", x.one(0, 3), 4);
        edge.is("STAND", x.rule(4), 3);
        edge.is("BROKEN", x.broken(0, 0), 1);
        edge.is("DONE", x.rule(3), 5);
        edge.is("SEEN", x.count(2), 1);
        edge.holds("what was SEEN", x.books() > 0);
        edge.is("IMAGES stay", x.count(3), 2);
        edge.is("YEAR 2", x.back(0), 2);
        edge.is("STAND", x.rule(4), 1);
        edge.is("BROKEN", x.broken(0, 0), 0);
        edge.is("SEEN", x.count(2), 2);
        edge.is("what was SEEN", x.books(), 0);
        x.text();
        edge.is("gone with a text", x.back(0), STATE);
        edge.is("gone with a text", x.back(1), STATE);
        backToBooks();
    }

    /** Of what was SEEN all is kept: of a ONE or a LAW, of which, how often. */
    private static void backToBooks() {
        QuotaLaws x = Due.told("law 0 3 0 0;law 0 2 0 0;law 0 1 0 0;one 5 0 0 0;one 4 0 0 0;");
        int[][] seen = {{0, 0, 1}, {1, 0, 1}, {0, 1, 1}, {0, 0, 2}};
        long[] books = new long[4];
        for (int i = 0; i < 4; i++) {
            x.forget(0);
            x.see(seen[i][0], seen[i][1], seen[i][2]);
            books[i] = x.books();
            x.keep(0);
            for (int other = 0; other < 4; other++) {
                x.forget(0);
                x.see(seen[other][0], seen[other][1], seen[other][2]);
                x.back(0);
                edge.is("SEEN " + i + " behind " + other, x.books(), books[i]);
            }
        }
        for (int i = 0; i < 4; i++) {
            for (int other = 0; other < i; other++) {
                edge.holds("SEEN " + i + " is told from " + other, books[i] != books[other]);
            }
        }
    }

    private static void sheet() {
        edge.promise(35, "A SHEET is a new row of CELLS 0: 1. BAD: also n above 40; -10 - 4.");
        QuotaLaws x = Due.told("law 0 3 0 0;law 0 3 0 0;one 5 0 0 0;one 5 0 0 0;");
        edge.is("-1 CELLS", x.sheet(0, 0, -1), -14);
        edge.is("still nothing", x.count(5), NONE);
        edge.is("0 CELLS", x.sheet(0, 0, 0), 1);
        edge.is("0 CELLS", x.count(5), 0);
        edge.is("40 CELLS", x.sheet(0, 2, 40), 1);
        edge.is("40 CELLS", x.count(5), 40);
        edge.is("41 CELLS", x.sheet(0, 2, 41), BAD);
        edge.is("MAX CELLS", x.sheet(0, 2, MAX), BAD);
        edge.is("MIN CELLS", x.sheet(0, 2, MIN), -14);
        edge.is("40 CELLS stay", x.count(5), 40);
        x.lay(0, 39, 1);
        edge.is("the same lane stays", x.read(0, 2, 38, 1), 1);
        edge.is("CELL 39 stays", x.broken(0, 1), 1);
        x.sheet(0, 1, 40);
        edge.is("a new row", x.read(0, 1, 38, 1), 1);
        edge.is("of CELLS 0", x.broken(0, 0), 1);
        edge.is("a new lane", x.read(0, 2, 38, 1), 0);
        edge.is("a new lane", x.torn(), 3);
        for (int w : new int[] {-1, 4, MIN, MAX}) {
            edge.is("SHEET " + w, x.sheet(w, 0, 1), BAD);
            edge.is("lane " + w, x.sheet(0, w, 1), BAD);
        }
        edge.is("lane 3", x.sheet(0, 3, 1), BAD);
        edge.is("SHEET 3", x.sheet(3, 2, 1), 1);
    }

    private static void lay() {
        edge.promise(36, "CELL i of a SHEET becomes v (its lowest bits): 1. BAD: k; -10 less the FAULT: NULL, INDEX.");
        int[] values = {0, 1, -1, 127, 128, 255, 256, 257, -255, -256, 32767, 32768, 65535, 65536, 65537, -65535, MIN, MAX, MIN + 1, 1 << 24};
        for (int v : values) {
            for (int lane = 0; lane < 3; lane++) {
                QuotaLaws x = Due.told("law 0 3 0 0;law 0 3 0 0;one 5 0 0 0;");
                x.sheet(1, lane, 2);
                edge.is("lay " + v, x.lay(1, 1, v), 1);
                long low = lane == 0 ? Math.floorMod(v, 256) : lane == 1 ? Math.floorMod(v, 65536) : v;
                edge.is("lane " + lane + ", " + v, x.read(1, lane, 0, 1), low == 0 || low == 1 ? 1 : -20);
                edge.is("lane " + lane + ", " + v, x.broken(0, 1), low == 1 ? 1 : 0);
                edge.is("the other CELL", x.broken(0, 0), low == 0 ? 1 : 0);
            }
        }
        QuotaLaws x = new QuotaLaws();
        x.sheet(0, 0, 1);
        edge.is("CELL 0 of 1", x.lay(0, 0, 5), 1);
        edge.is("CELL 1 of 1", x.lay(0, 1, 5), -12);
        edge.is("CELL -1 of 1", x.lay(0, -1, 5), -12);
        edge.is("CELL MAX", x.lay(0, MAX, 5), -12);
        edge.is("CELL MIN", x.lay(0, MIN, 5), -12);
        edge.is("nothing", x.lay(1, 0, 5), -11);
        edge.is("nothing, whichever CELL", x.lay(1, -1, 5), -11);
        for (int k : new int[] {-1, 4, MIN, MAX}) {
            edge.is("SHEET " + k, x.lay(k, 0, 5), BAD);
        }
    }

    private static QuotaLaws forReading(int cells) {
        QuotaLaws x = Due.told(CAPS);
        x.sheet(1, 0, cells);
        for (int i = 0; i < cells / 2; i++) {
            x.lay(1, 2 * i, Math.min(i / 5, 2));
            x.lay(1, 2 * i + 1, i % 5);
        }
        return x;
    }

    private static void readBounds() {
        edge.promise(37, "n (0 to 20) BREAKINGS (ONE, LAW) are read of a SHEET taken as of a lane, two CELLS each from CELL f on, one behind another as by breaks(): how many came.");
        QuotaLaws x = forReading(40);
        edge.is("-1", x.read(1, 0, 0, -1), BAD);
        edge.is("0", x.read(1, 0, 0, 0), 0);
        edge.is("21", x.read(1, 0, 0, 21), BAD);
        edge.is("1", x.read(1, 0, 0, 1), 1);
        edge.is("ONE 0, LAW 0", x.broken(0, 0), 1);
        x = forReading(40);
        edge.is("15, all the TIME there is", x.read(1, 0, 0, 15), 15);
        edge.is("15", x.count(1), 15);
        edge.is("ONE 2, LAW 4", x.broken(2, 4), 1);
        x = forReading(30);
        edge.is("20 of a row for 15", x.read(1, 0, 0, 20), 15);
        edge.is("INDEX", x.torn(), 2);
        edge.promise(37, "BAD: k, lane, n;");
        for (int w : new int[] {-1, 4, MIN, MAX}) {
            edge.is("SHEET " + w, x.read(w, 0, 0, 1), BAD);
            edge.is("lane " + w, x.read(1, w, 0, 1), BAD);
        }
        edge.is("lane 3", x.read(1, 3, 0, 1), BAD);
        edge.is("n MIN", x.read(1, 0, 0, MIN), BAD);
        edge.is("n MAX", x.read(1, 0, 0, MAX), BAD);
        edge.is("torn() as it was", x.torn(), 2);
        edge.is("SHEET 0, nothing", x.read(0, 0, 0, 1), 0);
        edge.is("SHEET 3, nothing", x.read(3, 2, 0, 1), 0);
    }

    private static void readCells() {
        edge.promise(37, "two CELLS each from CELL f on");
        int[] from = {0, 1, 2, 3, 4, 5, 6, -1, -2, 40, MAX, MAX - 1, MIN, MIN + 1};
        int[] came = {3, 2, 2, 1, 1, 0, 0, 0, 0, 0, 0, 0, 0, 0};
        for (int i = 0; i < from.length; i++) {
            QuotaLaws x = Due.told(CAPS);
            x.sheet(1, 2, 6);
            x.lay(1, 4, 1);
            x.lay(1, 5, 1);
            edge.is("20 from CELL " + from[i], x.read(1, 2, from[i], 20), came[i]);
            edge.is("INDEX", x.torn(), 2);
            edge.is("they came", x.count(1), came[i]);
            edge.is("the last pair", x.broken(1, 1), came[i] > 0 && from[i] % 2 == 0 ? 1 : 0);
            edge.is("across", x.broken(0, 1), came[i] > 0 && from[i] % 2 == 1 ? 1 : 0);
        }
        QuotaLaws x = Due.told(CAPS);
        x.sheet(1, 1, 40);
        x.lay(1, 38, 2);
        x.lay(1, 39, 4);
        edge.is("the last two CELLS", x.read(1, 1, 38, 1), 1);
        edge.is("the last two CELLS", x.broken(2, 4), 1);
        edge.is("whole", x.torn(), 0);
        edge.is("one CELL is left", x.read(1, 1, 39, 1), 0);
        edge.is("INDEX", x.torn(), 2);
    }

    private static void readRefused() {
        edge.promise(37, "-20 less i: the i-th, whole, is refused by breaks() (in whichever way): then none came; the first met.");
        QuotaLaws x = forReading(40);
        edge.is("the 15th of 20: no TIME", x.read(1, 0, 0, 20), -35);
        edge.is("none came", x.count(1), 0);
        edge.is("no harm", x.rule(3), 0);
        edge.is("16, as well", x.read(1, 0, 0, 16), -35);
        x.lay(1, 0, 3);
        edge.is("the 0th: no such ONE", x.read(1, 0, 0, 20), -20);
        x.lay(1, 0, 0);
        x.lay(1, 3, 5);
        edge.is("the 1st: no such LAW", x.read(1, 0, 0, 20), -21);
        x.lay(1, 3, -1);
        edge.is("the 1st: no such LAW", x.read(1, 0, 0, 2), -21);
        x.lay(1, 3, 1);
        x.refuse(0, 2, true);
        edge.is("the 2nd: he REFUSES", x.read(1, 0, 0, 20), -22);
        edge.is("two ahead of it", x.read(1, 0, 0, 2), 2);
        edge.is("from CELL 4 on it is the 0th", x.read(1, 0, 4, 1), -20);
        QuotaLaws y = forReading(7);
        y.refuse(0, 2, true);
        edge.is("refused, ahead of what the machine refuses", y.read(1, 0, 0, 4), -22);
        edge.is("none came", y.count(1), 0);
        y.refuse(0, 2, false);
        y.lay(1, 6, 9);
        edge.is("the 3rd is not whole", y.read(1, 0, 0, 4), 3);
        edge.is("INDEX", y.torn(), 2);
        QuotaLaws z = Due.told("law 0 3 0 5;one 5 0 0 9;watch 0;");
        z.sheet(1, 2, 6);
        edge.is("the PURSE is spent by the one before", z.read(1, 2, 0, 2), -21);
        edge.is("the PURSE is as it was", z.one(0, 3), 9);
        z.fund(0, 10);
        edge.is("the PURSE is just enough", z.read(1, 2, 0, 2), 2);
        edge.is("the PURSE is spent", z.one(0, 3), 0);
    }

    private static void readMachine() {
        edge.promise(37, "What the machine refuses: those that were whole ahead come (its FAULT is asked by torn()).");
        QuotaLaws x = forReading(5);
        edge.is("two are whole", x.read(1, 0, 0, 3), 2);
        edge.is("INDEX", x.torn(), 2);
        edge.is("they come", x.count(1), 2);
        edge.is("another lane", x.read(1, 1, 0, 3), 0);
        edge.is("CAST", x.torn(), 3);
        edge.is("another lane, ahead of INDEX", x.read(1, 2, -1, 3), 0);
        edge.is("CAST", x.torn(), 3);
        edge.is("nothing", x.read(0, 0, 0, 3), 0);
        edge.is("NULL", x.torn(), 1);
        edge.is("nothing, ahead of INDEX", x.read(0, 1, 99, 3), 0);
        edge.is("NULL", x.torn(), 1);
        edge.is("no more came", x.count(1), 2);
        x.sheet(2, 1, 0);
        edge.is("no CELLS", x.read(2, 1, 0, 1), 0);
        edge.is("INDEX", x.torn(), 2);
        edge.is("no CELLS, of which none are read", x.read(2, 1, 0, 0), 0);
        edge.is("whole", x.torn(), 0);
        edge.is("no CELLS, another lane", x.read(2, 0, 0, 1), 0);
        edge.is("CAST", x.torn(), 3);
        edge.is("nothing, of which none are read", x.read(3, 0, 0, 0), 0);
        edge.is("whole", x.torn(), 0);
    }

    private static void torn() {
        edge.promise(38, "The FAULT of the latest read() that came to an end; 0.");
        QuotaLaws x = forReading(4);
        edge.is("ahead of all", x.torn(), 0);
        x.read(1, 0, 0, 3);
        edge.is("INDEX", x.torn(), 2);
        edge.is("asked again", x.torn(), 2);
        edge.is("BAD", x.read(1, 0, 0, 21), BAD);
        edge.is("BAD does not come to an end", x.torn(), 2);
        x.lay(1, 0, 9);
        edge.is("refused", x.read(1, 0, 0, 1), -20);
        edge.is("nor does what is refused", x.torn(), 2);
        x.lay(1, 99, 0);
        x.sheet(0, 0, -1);
        edge.is("the FAULTS of others are not those of read()", x.torn(), 2);
        x.keep(0);
        x.back(0);
        x.text();
        edge.is("no IMAGE, no text keeps it", x.torn(), 2);
        x.read(1, 0, 0, 0);
        edge.is("whole", x.torn(), 0);
    }

    private static void count() {
        edge.promise(39, "How many: 0 LAWS that STAND, 1 all that is BROKEN, 2 SEEN, 3 IMAGES, 4 bytes on THE TAPE, 5 CELLS of SHEET 0 (NONE: nothing), 6 all PURSES, 7 all NEED. BAD.");
        QuotaLaws x = new QuotaLaws();
        for (int what = 0; what < 8; what++) {
            edge.is("nothing: " + what, x.count(what), what == 5 ? NONE : 0);
        }
        x.sheet(1, 0, 7);
        edge.is("SHEET 1 is not SHEET 0", x.count(5), NONE);
        Due.feedAll(x, "law9 3 0 0;law9 3 0 0;law9 3 0 0;law9 3 0 0;law9 3 0 0;one5 0 0 99;one5 0 0 99;one5 0 0 99;");
        edge.is("bytes", x.count(4), 91);
        x.text();
        edge.is("all PURSES", x.count(6), 297);
        edge.is("all NEED", x.count(7), 45);
        for (int i = 0; i < 15; i++) {
            x.breaks(i / 5, i % 5);
        }
        edge.is("all that is BROKEN", x.count(1), 15);
        edge.is("all NEED", x.count(7), 30);
        edge.is("LAWS that STAND", x.count(0), 5);
        for (int i = 0; i < 160; i++) {
            x.feed(32);
        }
        edge.is("a full TAPE", x.count(4), 160);
        for (int i = 0; i < 9; i++) {
            x.see(0, 0, 1);
        }
        edge.is("full books", x.count(2), 8);
        x.keep(1);
        edge.is("IMAGES", x.count(3), 1);
        x.sheet(0, 0, 0);
        edge.is("no CELLS", x.count(5), 0);
        x.sheet(0, 0, 40);
        edge.is("CELLS", x.count(5), 40);
        x.year();
        edge.is("none STANDS", x.count(0), 0);
        edge.is("LAPSED ones have no NEED", x.count(7), 0);
        edge.is("nothing is BROKEN", x.count(1), 0);
        for (int what : new int[] {-1, 8, MIN, MAX}) {
            edge.is("count(" + what + ")", x.count(what), BAD);
        }
    }
}
